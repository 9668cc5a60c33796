section
-- ===== PART A: goes FIRST, ahead of the names: the tables' words, and 'selects' of the private methods out of them =====
/-- a private method of a class that the tables say can be made, by its rows of tables_1 -/
def lw_okq (q : MethodName × Nat) : Prop := (q.1.cls ≠ "java/lang/invoke/MethodHandle" ∧ q.1.cls ≠ "java/lang/invoke/VarHandle") ∧ Cond.instantiable q.1.cls q.2 ∈ tables_1 ∧ Cond.privateMethod q.1 ∈ tables_1 ∧ Cond.instanceMethod q.1 ∈ tables_1
theorem lw_p0 : lw_okq (⟨"RingShepherds", "refuse", "(II)I"⟩, 9) := ⟨⟨by decide +kernel, by decide +kernel⟩, List.mem_of_getElem? (i := 23) (by decide +kernel), List.mem_of_getElem? (i := 294) (by decide +kernel), List.mem_of_getElem? (i := 295) (by decide +kernel)⟩
theorem lw_p1 : lw_okq (⟨"RingShepherds", "isPlace", "(I)Z"⟩, 9) := ⟨⟨by decide +kernel, by decide +kernel⟩, List.mem_of_getElem? (i := 23) (by decide +kernel), List.mem_of_getElem? (i := 314) (by decide +kernel), List.mem_of_getElem? (i := 315) (by decide +kernel)⟩
theorem lw_p2 : lw_okq (⟨"RingShepherds$Ring", "seat", "(II)I"⟩, 13) := ⟨⟨by decide +kernel, by decide +kernel⟩, List.mem_of_getElem? (i := 73) (by decide +kernel), List.mem_of_getElem? (i := 322) (by decide +kernel), List.mem_of_getElem? (i := 323) (by decide +kernel)⟩
theorem lw_p3 : lw_okq (⟨"RingShepherds$Reader", "readRing", "()Z"⟩, 3) := ⟨⟨by decide +kernel, by decide +kernel⟩, List.mem_of_getElem? (i := 242) (by decide +kernel), List.mem_of_getElem? (i := 367) (by decide +kernel), List.mem_of_getElem? (i := 368) (by decide +kernel)⟩
theorem lw_p4 : lw_okq (⟨"RingShepherds$Reader", "takeNumber", "(III)Z"⟩, 3) := ⟨⟨by decide +kernel, by decide +kernel⟩, List.mem_of_getElem? (i := 242) (by decide +kernel), List.mem_of_getElem? (i := 424) (by decide +kernel), List.mem_of_getElem? (i := 425) (by decide +kernel)⟩
theorem lw_p5 : lw_okq (⟨"RingShepherds$Reader", "takeSemicolon", "()Z"⟩, 3) := ⟨⟨by decide +kernel, by decide +kernel⟩, List.mem_of_getElem? (i := 242) (by decide +kernel), List.mem_of_getElem? (i := 433) (by decide +kernel), List.mem_of_getElem? (i := 434) (by decide +kernel)⟩
theorem lw_p6 : lw_okq (⟨"RingShepherds$Reader", "readItem", "()Z"⟩, 3) := ⟨⟨by decide +kernel, by decide +kernel⟩, List.mem_of_getElem? (i := 242) (by decide +kernel), List.mem_of_getElem? (i := 438) (by decide +kernel), List.mem_of_getElem? (i := 439) (by decide +kernel)⟩
theorem lw_p7 : lw_okq (⟨"RingShepherds$Reader", "readStep", "()Z"⟩, 3) := ⟨⟨by decide +kernel, by decide +kernel⟩, List.mem_of_getElem? (i := 242) (by decide +kernel), List.mem_of_getElem? (i := 443) (by decide +kernel), List.mem_of_getElem? (i := 444) (by decide +kernel)⟩
theorem lw_p8 : lw_okq (⟨"RingShepherds$Reader", "readLumps", "()Z"⟩, 3) := ⟨⟨by decide +kernel, by decide +kernel⟩, List.mem_of_getElem? (i := 242) (by decide +kernel), List.mem_of_getElem? (i := 448) (by decide +kernel), List.mem_of_getElem? (i := 449) (by decide +kernel)⟩
theorem lw_p9 : lw_okq (⟨"RingShepherds$Reader", "readMoon", "()Z"⟩, 3) := ⟨⟨by decide +kernel, by decide +kernel⟩, List.mem_of_getElem? (i := 242) (by decide +kernel), List.mem_of_getElem? (i := 454) (by decide +kernel), List.mem_of_getElem? (i := 455) (by decide +kernel)⟩
theorem lw_p10 : lw_okq (⟨"RingShepherds$Ring", "passBy", "(I)I"⟩, 13) := ⟨⟨by decide +kernel, by decide +kernel⟩, List.mem_of_getElem? (i := 73) (by decide +kernel), List.mem_of_getElem? (i := 495) (by decide +kernel), List.mem_of_getElem? (i := 496) (by decide +kernel)⟩
theorem lw_p11 : lw_okq (⟨"RingShepherds$Ring", "takeAll", "(II)I"⟩, 13) := ⟨⟨by decide +kernel, by decide +kernel⟩, List.mem_of_getElem? (i := 73) (by decide +kernel), List.mem_of_getElem? (i := 534) (by decide +kernel), List.mem_of_getElem? (i := 535) (by decide +kernel)⟩
theorem lw_p12 : lw_okq (⟨"RingShepherds$Ring", "put", "(III)I"⟩, 13) := ⟨⟨by decide +kernel, by decide +kernel⟩, List.mem_of_getElem? (i := 73) (by decide +kernel), List.mem_of_getElem? (i := 539) (by decide +kernel), List.mem_of_getElem? (i := 540) (by decide +kernel)⟩
theorem lw_p13 : lw_okq (⟨"RingShepherds", "isMoon", "(I)Z"⟩, 9) := ⟨⟨by decide +kernel, by decide +kernel⟩, List.mem_of_getElem? (i := 23) (by decide +kernel), List.mem_of_getElem? (i := 564) (by decide +kernel), List.mem_of_getElem? (i := 565) (by decide +kernel)⟩
theorem lw_p14 : lw_okq (⟨"RingShepherds$Course", "leaveInRound", "(I)V"⟩, 8) := ⟨⟨by decide +kernel, by decide +kernel⟩, List.mem_of_getElem? (i := 158) (by decide +kernel), List.mem_of_getElem? (i := 627) (by decide +kernel), List.mem_of_getElem? (i := 628) (by decide +kernel)⟩
theorem lw_p15 : lw_okq (⟨"RingShepherds$Course", "pushAheadOfRound", "()V"⟩, 8) := ⟨⟨by decide +kernel, by decide +kernel⟩, List.mem_of_getElem? (i := 158) (by decide +kernel), List.mem_of_getElem? (i := 634) (by decide +kernel), List.mem_of_getElem? (i := 635) (by decide +kernel)⟩
def lw_privs_1 : List (MethodName × Nat) := [(⟨"RingShepherds", "refuse", "(II)I"⟩, 9), (⟨"RingShepherds", "isPlace", "(I)Z"⟩, 9), (⟨"RingShepherds$Ring", "seat", "(II)I"⟩, 13), (⟨"RingShepherds$Reader", "readRing", "()Z"⟩, 3), (⟨"RingShepherds$Reader", "takeNumber", "(III)Z"⟩, 3), (⟨"RingShepherds$Reader", "takeSemicolon", "()Z"⟩, 3), (⟨"RingShepherds$Reader", "readItem", "()Z"⟩, 3), (⟨"RingShepherds$Reader", "readStep", "()Z"⟩, 3), (⟨"RingShepherds$Reader", "readLumps", "()Z"⟩, 3), (⟨"RingShepherds$Reader", "readMoon", "()Z"⟩, 3), (⟨"RingShepherds$Ring", "passBy", "(I)I"⟩, 13), (⟨"RingShepherds$Ring", "takeAll", "(II)I"⟩, 13), (⟨"RingShepherds$Ring", "put", "(III)I"⟩, 13), (⟨"RingShepherds", "isMoon", "(I)Z"⟩, 9), (⟨"RingShepherds$Course", "leaveInRound", "(I)V"⟩, 8), (⟨"RingShepherds$Course", "pushAheadOfRound", "()V"⟩, 8)]
theorem lw_r1 : ∀ q ∈ lw_privs_1, lw_okq q := List.forall_mem_cons.mpr ⟨lw_p0, List.forall_mem_cons.mpr ⟨lw_p1, List.forall_mem_cons.mpr ⟨lw_p2, List.forall_mem_cons.mpr ⟨lw_p3, List.forall_mem_cons.mpr ⟨lw_p4, List.forall_mem_cons.mpr ⟨lw_p5, List.forall_mem_cons.mpr ⟨lw_p6, List.forall_mem_cons.mpr ⟨lw_p7, List.forall_mem_cons.mpr ⟨lw_p8, List.forall_mem_cons.mpr ⟨lw_p9, List.forall_mem_cons.mpr ⟨lw_p10, List.forall_mem_cons.mpr ⟨lw_p11, List.forall_mem_cons.mpr ⟨lw_p12, List.forall_mem_cons.mpr ⟨lw_p13, List.forall_mem_cons.mpr ⟨lw_p14, List.forall_mem_cons.mpr ⟨lw_p15, fun _ h => absurd h List.not_mem_nil⟩⟩⟩⟩⟩⟩⟩⟩⟩⟩⟩⟩⟩⟩⟩⟩
theorem lw_p16 : lw_okq (⟨"RingShepherds$Course", "costIfLeft", "(II)I"⟩, 8) := ⟨⟨by decide +kernel, by decide +kernel⟩, List.mem_of_getElem? (i := 158) (by decide +kernel), List.mem_of_getElem? (i := 638) (by decide +kernel), List.mem_of_getElem? (i := 639) (by decide +kernel)⟩
theorem lw_p17 : lw_okq (⟨"RingShepherds$Ring", "isRoundBehind", "(I)Z"⟩, 13) := ⟨⟨by decide +kernel, by decide +kernel⟩, List.mem_of_getElem? (i := 73) (by decide +kernel), List.mem_of_getElem? (i := 680) (by decide +kernel), List.mem_of_getElem? (i := 681) (by decide +kernel)⟩
theorem lw_p18 : lw_okq (⟨"RingShepherds$Course", "fitsWithout", "(III)Z"⟩, 8) := ⟨⟨by decide +kernel, by decide +kernel⟩, List.mem_of_getElem? (i := 158) (by decide +kernel), List.mem_of_getElem? (i := 696) (by decide +kernel), List.mem_of_getElem? (i := 697) (by decide +kernel)⟩
theorem lw_p19 : lw_okq (⟨"RingShepherds$Course", "sumLanes", "()V"⟩, 8) := ⟨⟨by decide +kernel, by decide +kernel⟩, List.mem_of_getElem? (i := 158) (by decide +kernel), List.mem_of_getElem? (i := 715) (by decide +kernel), List.mem_of_getElem? (i := 716) (by decide +kernel)⟩
theorem lw_p20 : lw_okq (⟨"RingShepherds$Course", "ordersBehind", "(I)J"⟩, 8) := ⟨⟨by decide +kernel, by decide +kernel⟩, List.mem_of_getElem? (i := 158) (by decide +kernel), List.mem_of_getElem? (i := 740) (by decide +kernel), List.mem_of_getElem? (i := 741) (by decide +kernel)⟩
theorem lw_p21 : lw_okq (⟨"RingShepherds", "counted", "(I)I"⟩, 9) := ⟨⟨by decide +kernel, by decide +kernel⟩, List.mem_of_getElem? (i := 23) (by decide +kernel), List.mem_of_getElem? (i := 783) (by decide +kernel), List.mem_of_getElem? (i := 784) (by decide +kernel)⟩
theorem lw_p22 : lw_okq (⟨"RingShepherdsModel", "bad", "(I)I"⟩, 25) := ⟨⟨by decide +kernel, by decide +kernel⟩, List.mem_of_getElem? (i := 804) (by decide +kernel), List.mem_of_getElem? (i := 898) (by decide +kernel), List.mem_of_getElem? (i := 899) (by decide +kernel)⟩
theorem lw_p23 : lw_okq (⟨"RingShepherdsModel", "places", "()I"⟩, 25) := ⟨⟨by decide +kernel, by decide +kernel⟩, List.mem_of_getElem? (i := 804) (by decide +kernel), List.mem_of_getElem? (i := 902) (by decide +kernel), List.mem_of_getElem? (i := 903) (by decide +kernel)⟩
theorem lw_p24 : lw_okq (⟨"RingShepherdsModel", "isPlace", "(I)Z"⟩, 25) := ⟨⟨by decide +kernel, by decide +kernel⟩, List.mem_of_getElem? (i := 804) (by decide +kernel), List.mem_of_getElem? (i := 918) (by decide +kernel), List.mem_of_getElem? (i := 919) (by decide +kernel)⟩
theorem lw_p25 : lw_okq (⟨"RingShepherdsModel", "moons", "()I"⟩, 25) := ⟨⟨by decide +kernel, by decide +kernel⟩, List.mem_of_getElem? (i := 804) (by decide +kernel), List.mem_of_getElem? (i := 928) (by decide +kernel), List.mem_of_getElem? (i := 929) (by decide +kernel)⟩
theorem lw_p26 : lw_okq (⟨"RingShepherdsModel", "full", "()I"⟩, 25) := ⟨⟨by decide +kernel, by decide +kernel⟩, List.mem_of_getElem? (i := 804) (by decide +kernel), List.mem_of_getElem? (i := 932) (by decide +kernel), List.mem_of_getElem? (i := 933) (by decide +kernel)⟩
theorem lw_p27 : lw_okq (⟨"RingShepherdsModel", "all", "()I"⟩, 25) := ⟨⟨by decide +kernel, by decide +kernel⟩, List.mem_of_getElem? (i := 804) (by decide +kernel), List.mem_of_getElem? (i := 943) (by decide +kernel), List.mem_of_getElem? (i := 944) (by decide +kernel)⟩
theorem lw_p28 : lw_okq (⟨"RingShepherdsModel", "takeNow", "(I)V"⟩, 25) := ⟨⟨by decide +kernel, by decide +kernel⟩, List.mem_of_getElem? (i := 804) (by decide +kernel), List.mem_of_getElem? (i := 947) (by decide +kernel), List.mem_of_getElem? (i := 948) (by decide +kernel)⟩
theorem lw_p29 : lw_okq (⟨"RingShepherdsModel", "of", "(II)I"⟩, 25) := ⟨⟨by decide +kernel, by decide +kernel⟩, List.mem_of_getElem? (i := 804) (by decide +kernel), List.mem_of_getElem? (i := 951) (by decide +kernel), List.mem_of_getElem? (i := 952) (by decide +kernel)⟩
theorem lw_p30 : lw_okq (⟨"RingShepherdsModel", "goRound", "()I"⟩, 25) := ⟨⟨by decide +kernel, by decide +kernel⟩, List.mem_of_getElem? (i := 804) (by decide +kernel), List.mem_of_getElem? (i := 955) (by decide +kernel), List.mem_of_getElem? (i := 956) (by decide +kernel)⟩
theorem lw_p31 : lw_okq (⟨"RingShepherdsModel", "goMoons", "()V"⟩, 25) := ⟨⟨by decide +kernel, by decide +kernel⟩, List.mem_of_getElem? (i := 804) (by decide +kernel), List.mem_of_getElem? (i := 959) (by decide +kernel), List.mem_of_getElem? (i := 960) (by decide +kernel)⟩
def lw_privs_2 : List (MethodName × Nat) := [(⟨"RingShepherds$Course", "costIfLeft", "(II)I"⟩, 8), (⟨"RingShepherds$Ring", "isRoundBehind", "(I)Z"⟩, 13), (⟨"RingShepherds$Course", "fitsWithout", "(III)Z"⟩, 8), (⟨"RingShepherds$Course", "sumLanes", "()V"⟩, 8), (⟨"RingShepherds$Course", "ordersBehind", "(I)J"⟩, 8), (⟨"RingShepherds", "counted", "(I)I"⟩, 9), (⟨"RingShepherdsModel", "bad", "(I)I"⟩, 25), (⟨"RingShepherdsModel", "places", "()I"⟩, 25), (⟨"RingShepherdsModel", "isPlace", "(I)Z"⟩, 25), (⟨"RingShepherdsModel", "moons", "()I"⟩, 25), (⟨"RingShepherdsModel", "full", "()I"⟩, 25), (⟨"RingShepherdsModel", "all", "()I"⟩, 25), (⟨"RingShepherdsModel", "takeNow", "(I)V"⟩, 25), (⟨"RingShepherdsModel", "of", "(II)I"⟩, 25), (⟨"RingShepherdsModel", "goRound", "()I"⟩, 25), (⟨"RingShepherdsModel", "goMoons", "()V"⟩, 25)]
theorem lw_r2 : ∀ q ∈ lw_privs_2, lw_okq q := List.forall_mem_cons.mpr ⟨lw_p16, List.forall_mem_cons.mpr ⟨lw_p17, List.forall_mem_cons.mpr ⟨lw_p18, List.forall_mem_cons.mpr ⟨lw_p19, List.forall_mem_cons.mpr ⟨lw_p20, List.forall_mem_cons.mpr ⟨lw_p21, List.forall_mem_cons.mpr ⟨lw_p22, List.forall_mem_cons.mpr ⟨lw_p23, List.forall_mem_cons.mpr ⟨lw_p24, List.forall_mem_cons.mpr ⟨lw_p25, List.forall_mem_cons.mpr ⟨lw_p26, List.forall_mem_cons.mpr ⟨lw_p27, List.forall_mem_cons.mpr ⟨lw_p28, List.forall_mem_cons.mpr ⟨lw_p29, List.forall_mem_cons.mpr ⟨lw_p30, List.forall_mem_cons.mpr ⟨lw_p31, fun _ h => absurd h List.not_mem_nil⟩⟩⟩⟩⟩⟩⟩⟩⟩⟩⟩⟩⟩⟩⟩⟩
theorem lw_p32 : lw_okq (⟨"RingShepherdsModel", "isAwake", "(I)Z"⟩, 25) := ⟨⟨by decide +kernel, by decide +kernel⟩, List.mem_of_getElem? (i := 804) (by decide +kernel), List.mem_of_getElem? (i := 963) (by decide +kernel), List.mem_of_getElem? (i := 964) (by decide +kernel)⟩
theorem lw_p33 : lw_okq (⟨"RingShepherdsModel", "goMoon", "(I)I"⟩, 25) := ⟨⟨by decide +kernel, by decide +kernel⟩, List.mem_of_getElem? (i := 804) (by decide +kernel), List.mem_of_getElem? (i := 967) (by decide +kernel), List.mem_of_getElem? (i := 968) (by decide +kernel)⟩
theorem lw_p34 : lw_okq (⟨"RingShepherdsModel", "isBy", "(II)Z"⟩, 25) := ⟨⟨by decide +kernel, by decide +kernel⟩, List.mem_of_getElem? (i := 804) (by decide +kernel), List.mem_of_getElem? (i := 971) (by decide +kernel), List.mem_of_getElem? (i := 972) (by decide +kernel)⟩
theorem lw_p35 : lw_okq (⟨"RingShepherdsModel", "isBeside", "(II)Z"⟩, 25) := ⟨⟨by decide +kernel, by decide +kernel⟩, List.mem_of_getElem? (i := 804) (by decide +kernel), List.mem_of_getElem? (i := 975) (by decide +kernel), List.mem_of_getElem? (i := 976) (by decide +kernel)⟩
theorem lw_p36 : lw_okq (⟨"RingShepherdsModel", "movedTo", "(II)I"⟩, 25) := ⟨⟨by decide +kernel, by decide +kernel⟩, List.mem_of_getElem? (i := 804) (by decide +kernel), List.mem_of_getElem? (i := 979) (by decide +kernel), List.mem_of_getElem? (i := 980) (by decide +kernel)⟩
theorem lw_p37 : lw_okq (⟨"RingShepherdsModel", "no", "()I"⟩, 25) := ⟨⟨by decide +kernel, by decide +kernel⟩, List.mem_of_getElem? (i := 804) (by decide +kernel), List.mem_of_getElem? (i := 987) (by decide +kernel), List.mem_of_getElem? (i := 988) (by decide +kernel)⟩
theorem lw_p38 : lw_okq (⟨"RingShepherdsModel", "isMoon", "(I)Z"⟩, 25) := ⟨⟨by decide +kernel, by decide +kernel⟩, List.mem_of_getElem? (i := 804) (by decide +kernel), List.mem_of_getElem? (i := 1002) (by decide +kernel), List.mem_of_getElem? (i := 1003) (by decide +kernel)⟩
theorem lw_p39 : lw_okq (⟨"RingShepherdsModel", "goOneOn", "(III)V"⟩, 25) := ⟨⟨by decide +kernel, by decide +kernel⟩, List.mem_of_getElem? (i := 804) (by decide +kernel), List.mem_of_getElem? (i := 1016) (by decide +kernel), List.mem_of_getElem? (i := 1017) (by decide +kernel)⟩
theorem lw_p40 : lw_okq (⟨"RingShepherdsModel", "goOne", "()V"⟩, 25) := ⟨⟨by decide +kernel, by decide +kernel⟩, List.mem_of_getElem? (i := 804) (by decide +kernel), List.mem_of_getElem? (i := 1020) (by decide +kernel), List.mem_of_getElem? (i := 1021) (by decide +kernel)⟩
theorem lw_p41 : lw_okq (⟨"RingShepherdsModel", "lossOf", "(II)I"⟩, 25) := ⟨⟨by decide +kernel, by decide +kernel⟩, List.mem_of_getElem? (i := 804) (by decide +kernel), List.mem_of_getElem? (i := 1028) (by decide +kernel), List.mem_of_getElem? (i := 1029) (by decide +kernel)⟩
theorem lw_p42 : lw_okq (⟨"RingShepherdsModel", "behind", "(III)I"⟩, 25) := ⟨⟨by decide +kernel, by decide +kernel⟩, List.mem_of_getElem? (i := 804) (by decide +kernel), List.mem_of_getElem? (i := 1038) (by decide +kernel), List.mem_of_getElem? (i := 1039) (by decide +kernel)⟩
theorem lw_p43 : lw_okq (⟨"RingShepherdsModel", "isRoad", "(I)Z"⟩, 25) := ⟨⟨by decide +kernel, by decide +kernel⟩, List.mem_of_getElem? (i := 804) (by decide +kernel), List.mem_of_getElem? (i := 1050) (by decide +kernel), List.mem_of_getElem? (i := 1051) (by decide +kernel)⟩
theorem lw_p44 : lw_okq (⟨"RingShepherdsModel", "turns", "(I)I"⟩, 25) := ⟨⟨by decide +kernel, by decide +kernel⟩, List.mem_of_getElem? (i := 804) (by decide +kernel), List.mem_of_getElem? (i := 1058) (by decide +kernel), List.mem_of_getElem? (i := 1059) (by decide +kernel)⟩
theorem lw_p45 : lw_okq (⟨"RingShepherdsModel", "isTold", "(II)Z"⟩, 25) := ⟨⟨by decide +kernel, by decide +kernel⟩, List.mem_of_getElem? (i := 804) (by decide +kernel), List.mem_of_getElem? (i := 1074) (by decide +kernel), List.mem_of_getElem? (i := 1075) (by decide +kernel)⟩
theorem lw_p46 : lw_okq (⟨"RingShepherdsModel", "laneSum", "(I)I"⟩, 25) := ⟨⟨by decide +kernel, by decide +kernel⟩, List.mem_of_getElem? (i := 804) (by decide +kernel), List.mem_of_getElem? (i := 1084) (by decide +kernel), List.mem_of_getElem? (i := 1085) (by decide +kernel)⟩
theorem lw_p47 : lw_okq (⟨"RingShepherdsModel", "look", "(I)V"⟩, 25) := ⟨⟨by decide +kernel, by decide +kernel⟩, List.mem_of_getElem? (i := 804) (by decide +kernel), List.mem_of_getElem? (i := 1113) (by decide +kernel), List.mem_of_getElem? (i := 1114) (by decide +kernel)⟩
def lw_privs_3 : List (MethodName × Nat) := [(⟨"RingShepherdsModel", "isAwake", "(I)Z"⟩, 25), (⟨"RingShepherdsModel", "goMoon", "(I)I"⟩, 25), (⟨"RingShepherdsModel", "isBy", "(II)Z"⟩, 25), (⟨"RingShepherdsModel", "isBeside", "(II)Z"⟩, 25), (⟨"RingShepherdsModel", "movedTo", "(II)I"⟩, 25), (⟨"RingShepherdsModel", "no", "()I"⟩, 25), (⟨"RingShepherdsModel", "isMoon", "(I)Z"⟩, 25), (⟨"RingShepherdsModel", "goOneOn", "(III)V"⟩, 25), (⟨"RingShepherdsModel", "goOne", "()V"⟩, 25), (⟨"RingShepherdsModel", "lossOf", "(II)I"⟩, 25), (⟨"RingShepherdsModel", "behind", "(III)I"⟩, 25), (⟨"RingShepherdsModel", "isRoad", "(I)Z"⟩, 25), (⟨"RingShepherdsModel", "turns", "(I)I"⟩, 25), (⟨"RingShepherdsModel", "isTold", "(II)Z"⟩, 25), (⟨"RingShepherdsModel", "laneSum", "(I)I"⟩, 25), (⟨"RingShepherdsModel", "look", "(I)V"⟩, 25)]
theorem lw_r3 : ∀ q ∈ lw_privs_3, lw_okq q := List.forall_mem_cons.mpr ⟨lw_p32, List.forall_mem_cons.mpr ⟨lw_p33, List.forall_mem_cons.mpr ⟨lw_p34, List.forall_mem_cons.mpr ⟨lw_p35, List.forall_mem_cons.mpr ⟨lw_p36, List.forall_mem_cons.mpr ⟨lw_p37, List.forall_mem_cons.mpr ⟨lw_p38, List.forall_mem_cons.mpr ⟨lw_p39, List.forall_mem_cons.mpr ⟨lw_p40, List.forall_mem_cons.mpr ⟨lw_p41, List.forall_mem_cons.mpr ⟨lw_p42, List.forall_mem_cons.mpr ⟨lw_p43, List.forall_mem_cons.mpr ⟨lw_p44, List.forall_mem_cons.mpr ⟨lw_p45, List.forall_mem_cons.mpr ⟨lw_p46, List.forall_mem_cons.mpr ⟨lw_p47, fun _ h => absurd h List.not_mem_nil⟩⟩⟩⟩⟩⟩⟩⟩⟩⟩⟩⟩⟩⟩⟩⟩
theorem lw_p48 : lw_okq (⟨"RingShepherdsModel", "readsFirst", "()Z"⟩, 25) := ⟨⟨by decide +kernel, by decide +kernel⟩, List.mem_of_getElem? (i := 804) (by decide +kernel), List.mem_of_getElem? (i := 1127) (by decide +kernel), List.mem_of_getElem? (i := 1128) (by decide +kernel)⟩
theorem lw_p49 : lw_okq (⟨"RingShepherdsModel", "isWord", "(IIIII)Z"⟩, 25) := ⟨⟨by decide +kernel, by decide +kernel⟩, List.mem_of_getElem? (i := 804) (by decide +kernel), List.mem_of_getElem? (i := 1131) (by decide +kernel), List.mem_of_getElem? (i := 1132) (by decide +kernel)⟩
theorem lw_p50 : lw_okq (⟨"RingShepherdsModel", "goOn", "()V"⟩, 25) := ⟨⟨by decide +kernel, by decide +kernel⟩, List.mem_of_getElem? (i := 804) (by decide +kernel), List.mem_of_getElem? (i := 1135) (by decide +kernel), List.mem_of_getElem? (i := 1136) (by decide +kernel)⟩
theorem lw_p51 : lw_okq (⟨"RingShepherdsModel", "takes", "(III)Z"⟩, 25) := ⟨⟨by decide +kernel, by decide +kernel⟩, List.mem_of_getElem? (i := 804) (by decide +kernel), List.mem_of_getElem? (i := 1139) (by decide +kernel), List.mem_of_getElem? (i := 1140) (by decide +kernel)⟩
theorem lw_p52 : lw_okq (⟨"RingShepherdsModel", "readsItem", "()Z"⟩, 25) := ⟨⟨by decide +kernel, by decide +kernel⟩, List.mem_of_getElem? (i := 804) (by decide +kernel), List.mem_of_getElem? (i := 1143) (by decide +kernel), List.mem_of_getElem? (i := 1144) (by decide +kernel)⟩
theorem lw_p53 : lw_okq (⟨"RingShepherdsModel", "lastPlace", "()I"⟩, 25) := ⟨⟨by decide +kernel, by decide +kernel⟩, List.mem_of_getElem? (i := 804) (by decide +kernel), List.mem_of_getElem? (i := 1147) (by decide +kernel), List.mem_of_getElem? (i := 1148) (by decide +kernel)⟩
theorem lw_p54 : lw_okq (⟨"RingShepherdsModel", "counted", "(I)I"⟩, 25) := ⟨⟨by decide +kernel, by decide +kernel⟩, List.mem_of_getElem? (i := 804) (by decide +kernel), List.mem_of_getElem? (i := 1171) (by decide +kernel), List.mem_of_getElem? (i := 1172) (by decide +kernel)⟩
theorem lw_p55 : lw_okq (⟨"RingShepherdsModel", "sums", "(JII)J"⟩, 25) := ⟨⟨by decide +kernel, by decide +kernel⟩, List.mem_of_getElem? (i := 804) (by decide +kernel), List.mem_of_getElem? (i := 1181) (by decide +kernel), List.mem_of_getElem? (i := 1182) (by decide +kernel)⟩
def lw_privs_4 : List (MethodName × Nat) := [(⟨"RingShepherdsModel", "readsFirst", "()Z"⟩, 25), (⟨"RingShepherdsModel", "isWord", "(IIIII)Z"⟩, 25), (⟨"RingShepherdsModel", "goOn", "()V"⟩, 25), (⟨"RingShepherdsModel", "takes", "(III)Z"⟩, 25), (⟨"RingShepherdsModel", "readsItem", "()Z"⟩, 25), (⟨"RingShepherdsModel", "lastPlace", "()I"⟩, 25), (⟨"RingShepherdsModel", "counted", "(I)I"⟩, 25), (⟨"RingShepherdsModel", "sums", "(JII)J"⟩, 25)]
theorem lw_r4 : ∀ q ∈ lw_privs_4, lw_okq q := List.forall_mem_cons.mpr ⟨lw_p48, List.forall_mem_cons.mpr ⟨lw_p49, List.forall_mem_cons.mpr ⟨lw_p50, List.forall_mem_cons.mpr ⟨lw_p51, List.forall_mem_cons.mpr ⟨lw_p52, List.forall_mem_cons.mpr ⟨lw_p53, List.forall_mem_cons.mpr ⟨lw_p54, List.forall_mem_cons.mpr ⟨lw_p55, fun _ h => absurd h List.not_mem_nil⟩⟩⟩⟩⟩⟩⟩⟩
def lw_privs : List (MethodName × Nat) := lw_privs_1 ++ (lw_privs_2 ++ (lw_privs_3 ++ (lw_privs_4)))
def lw_tbl : List Cond := k2_sels lw_privs ++ tables_1
theorem lw_privs_ok : ∀ q ∈ lw_privs, lw_okq q := by
  show ∀ q ∈ lw_privs_1 ++ (lw_privs_2 ++ (lw_privs_3 ++ (lw_privs_4))), lw_okq q
  exact List.forall_mem_append.mpr ⟨lw_r1, List.forall_mem_append.mpr ⟨lw_r2, List.forall_mem_append.mpr ⟨lw_r3, lw_r4⟩⟩⟩
end
section
def RX0 : String := "RingShepherds$Course"
def TX0 : u_T := fun k => match k with
  | 0 => ("RingShepherds$Course", "ring", "LRingShepherds$Ring;", true)
  | 1 => ("RingShepherds$Course", "trial", "LRingShepherds$Ring;", true)
  | 2 => ("RingShepherds$Course", "lump", "LRingShepherds$Lump;", true)
  | 3 => ("RingShepherds$Course", "sums", "[I", true)
  | 4 => ("RingShepherds$Course", "cost", "[I", true)
  | 5 => ("RingShepherds$Course", "costLeft", "[I", true)
  | 6 => ("RingShepherds$Course", "takenFrom", "[I", true)
  | _ => ("RingShepherds$Course", "lossOf", "[I", true)
def tyX0 : Nat → FieldType := fun k => match k with
  | 0 => .object "RingShepherds$Ring"
  | 1 => .object "RingShepherds$Ring"
  | 2 => .object "RingShepherds$Lump"
  | 3 => .array .int
  | 4 => .array .int
  | 5 => .array .int
  | 6 => .array .int
  | _ => .array .int
abbrev wsX00 : List Cond := u_ws RX0 TX0 8
theorem nmX0 : ∀ a, a < 8 → ∀ b, b < 8 → a ≠ b → (TX0 a).2.1 ≠ (TX0 b).2.1 := by decide +kernel
theorem tyX0_ok : ∀ k, k < 8 → parseFieldDescriptor (TX0 k).2.2.1 = some (tyX0 k) := by decide +kernel
abbrev cX0_init : ByteArray := prog_2_method_1_code
def yX0_init : MethodName := ⟨RX0, "<init>", "(LRingShepherds$Ring;LRingShepherds$Ring;)V"⟩
abbrev cX0_follow : ByteArray := prog_2_method_2_code
def yX0_follow : MethodName := ⟨RX0, "follow", "(III)LRingShepherds$Lump;"⟩
abbrev cX0_lossIn : ByteArray := prog_2_method_3_code
def yX0_lossIn : MethodName := ⟨RX0, "lossIn", "(I)I"⟩
abbrev cX0_bestMove : ByteArray := prog_2_method_4_code
def yX0_bestMove : MethodName := ⟨RX0, "bestMove", "(II)I"⟩
abbrev cX0_fewestPushes : ByteArray := prog_2_method_5_code
def yX0_fewestPushes : MethodName := ⟨RX0, "fewestPushes", "(I)I"⟩
abbrev cX0_leaveInRound : ByteArray := prog_2_method_6_code
def yX0_leaveInRound : MethodName := ⟨RX0, "leaveInRound", "(I)V"⟩
abbrev cX0_pushAheadOfRound : ByteArray := prog_2_method_7_code
def yX0_pushAheadOfRound : MethodName := ⟨RX0, "pushAheadOfRound", "()V"⟩
abbrev cX0_costIfLeft : ByteArray := prog_2_method_8_code
def yX0_costIfLeft : MethodName := ⟨RX0, "costIfLeft", "(II)I"⟩
abbrev cX0_cell : ByteArray := prog_2_method_9_code
def yX0_cell : MethodName := ⟨RX0, "cell", "(II)I"⟩
abbrev cX0_roadOpens : ByteArray := prog_2_method_10_code
def yX0_roadOpens : MethodName := ⟨RX0, "roadOpens", "(II)I"⟩
abbrev cX0_roadLasts : ByteArray := prog_2_method_11_code
def yX0_roadLasts : MethodName := ⟨RX0, "roadLasts", "(III)I"⟩
abbrev cX0_findTaken : ByteArray := prog_2_method_12_code
def yX0_findTaken : MethodName := ⟨RX0, "findTaken", "(I)I"⟩
abbrev cX0_takenAt : ByteArray := prog_2_method_13_code
def yX0_takenAt : MethodName := ⟨RX0, "takenAt", "(I)I"⟩
abbrev cX0_fitsWithout : ByteArray := prog_2_method_14_code
def yX0_fitsWithout : MethodName := ⟨RX0, "fitsWithout", "(III)Z"⟩
abbrev cX0_farmerAhead : ByteArray := prog_2_method_15_code
def yX0_farmerAhead : MethodName := ⟨RX0, "farmerAhead", "(I)I"⟩
abbrev cX0_firstTaken : ByteArray := prog_2_method_16_code
def yX0_firstTaken : MethodName := ⟨RX0, "firstTaken", "(I)I"⟩
abbrev cX0_sumLanes : ByteArray := prog_2_method_17_code
def yX0_sumLanes : MethodName := ⟨RX0, "sumLanes", "()V"⟩
abbrev cX0_aheadBy : ByteArray := prog_2_method_18_code
def yX0_aheadBy : MethodName := ⟨RX0, "aheadBy", "([III)I"⟩
abbrev cX0_addedInAllOrders : ByteArray := prog_2_method_19_code
def yX0_addedInAllOrders : MethodName := ⟨RX0, "addedInAllOrders", "(II)J"⟩
abbrev cX0_ordersBehind : ByteArray := prog_2_method_20_code
def yX0_ordersBehind : MethodName := ⟨RX0, "ordersBehind", "(I)J"⟩
def RX1 : String := "RingShepherds$Drawing"
def TX1 : u_T := fun k => match k with
  | _ => ("", "", "", false)
def tyX1 : Nat → FieldType := fun k => match k with
  | _ => .int
abbrev wsX10 : List Cond := u_ws RX1 TX1 0
theorem nmX1 : ∀ a, a < 0 → ∀ b, b < 0 → a ≠ b → (TX1 a).2.1 ≠ (TX1 b).2.1 := by decide +kernel
theorem tyX1_ok : ∀ k, k < 0 → parseFieldDescriptor (TX1 k).2.2.1 = some (tyX1 k) := by decide +kernel
abbrev cX1_init : ByteArray := prog_3_method_1_code
def yX1_init : MethodName := ⟨RX1, "<init>", "()V"⟩
abbrev cX1_force : ByteArray := prog_3_method_2_code
def yX1_force : MethodName := ⟨RX1, "force", "()I"⟩
def RX2 : String := "RingShepherds$Lump"
def TX2 : u_T := fun k => match k with
  | 0 => ("RingShepherds$Lump", "lane", "I", false)
  | 1 => ("RingShepherds$Lump", "place", "I", false)
  | _ => ("RingShepherds$Lump", "touched", "I", false)
def tyX2 : Nat → FieldType := fun k => match k with
  | 0 => .int
  | 1 => .int
  | _ => .int
abbrev wsX20 : List Cond := u_ws RX2 TX2 3
theorem nmX2 : ∀ a, a < 3 → ∀ b, b < 3 → a ≠ b → (TX2 a).2.1 ≠ (TX2 b).2.1 := by decide +kernel
theorem tyX2_ok : ∀ k, k < 3 → parseFieldDescriptor (TX2 k).2.2.1 = some (tyX2 k) := by decide +kernel
abbrev cX2_init : ByteArray := prog_4_method_1_code
def yX2_init : MethodName := ⟨RX2, "<init>", "()V"⟩
abbrev cX2_lie : ByteArray := prog_4_method_2_code
def yX2_lie : MethodName := ⟨RX2, "lie", "(II)V"⟩
abbrev cX2_isLost : ByteArray := prog_4_method_3_code
def yX2_isLost : MethodName := ⟨RX2, "isLost", "()Z"⟩
abbrev cX2_goOn : ByteArray := prog_4_method_4_code
def yX2_goOn : MethodName := ⟨RX2, "goOn", "(LRingShepherds$Ring;I)V"⟩
def RX3 : String := "RingShepherds$Plain"
def TX3 : u_T := fun k => match k with
  | _ => ("", "", "", false)
def tyX3 : Nat → FieldType := fun k => match k with
  | _ => .int
abbrev wsX30 : List Cond := u_ws RX3 TX3 0
theorem nmX3 : ∀ a, a < 0 → ∀ b, b < 0 → a ≠ b → (TX3 a).2.1 ≠ (TX3 b).2.1 := by decide +kernel
theorem tyX3_ok : ∀ k, k < 0 → parseFieldDescriptor (TX3 k).2.2.1 = some (tyX3 k) := by decide +kernel
abbrev cX3_init : ByteArray := prog_5_method_1_code
def yX3_init : MethodName := ⟨RX3, "<init>", "()V"⟩
abbrev cX3_force : ByteArray := prog_5_method_2_code
def yX3_force : MethodName := ⟨RX3, "force", "()I"⟩
abbrev cX3_reach : ByteArray := prog_5_method_3_code
def yX3_reach : MethodName := ⟨RX3, "reach", "()I"⟩
abbrev cX3_isAwake : ByteArray := prog_5_method_4_code
def yX3_isAwake : MethodName := ⟨RX3, "isAwake", "(I)Z"⟩
def RX4 : String := "RingShepherds$Reader"
def TX4 : u_T := fun k => match k with
  | 0 => ("RingShepherds$Reader", "text", "LRingShepherds$Text;", true)
  | 1 => ("RingShepherds$Reader", "draft", "LRingShepherds$Ring;", true)
  | _ => ("RingShepherds$Reader", "numbers", "[I", true)
def tyX4 : Nat → FieldType := fun k => match k with
  | 0 => .object "RingShepherds$Text"
  | 1 => .object "RingShepherds$Ring"
  | _ => .array .int
abbrev wsX40 : List Cond := u_ws RX4 TX4 3
theorem nmX4 : ∀ a, a < 3 → ∀ b, b < 3 → a ≠ b → (TX4 a).2.1 ≠ (TX4 b).2.1 := by decide +kernel
theorem tyX4_ok : ∀ k, k < 3 → parseFieldDescriptor (TX4 k).2.2.1 = some (tyX4 k) := by decide +kernel
abbrev cX4_init : ByteArray := prog_6_method_1_code
def yX4_init : MethodName := ⟨RX4, "<init>", "(LRingShepherds$Text;LRingShepherds$Ring;)V"⟩
abbrev cX4_readAll : ByteArray := prog_6_method_2_code
def yX4_readAll : MethodName := ⟨RX4, "readAll", "()I"⟩
abbrev cX4_readRing : ByteArray := prog_6_method_3_code
def yX4_readRing : MethodName := ⟨RX4, "readRing", "()Z"⟩
abbrev cX4_readItem : ByteArray := prog_6_method_4_code
def yX4_readItem : MethodName := ⟨RX4, "readItem", "()Z"⟩
abbrev cX4_readStep : ByteArray := prog_6_method_5_code
def yX4_readStep : MethodName := ⟨RX4, "readStep", "()Z"⟩
abbrev cX4_readLumps : ByteArray := prog_6_method_6_code
def yX4_readLumps : MethodName := ⟨RX4, "readLumps", "()Z"⟩
abbrev cX4_readMoon : ByteArray := prog_6_method_7_code
def yX4_readMoon : MethodName := ⟨RX4, "readMoon", "()Z"⟩
abbrev cX4_takeNumber : ByteArray := prog_6_method_8_code
def yX4_takeNumber : MethodName := ⟨RX4, "takeNumber", "(III)Z"⟩
abbrev cX4_takeSemicolon : ByteArray := prog_6_method_9_code
def yX4_takeSemicolon : MethodName := ⟨RX4, "takeSemicolon", "()Z"⟩
def RX5 : String := "RingShepherds$Ring"
def TX5 : u_T := fun k => match k with
  | 0 => ("RingShepherds$Ring", "kinds", "[LRingShepherds$Plain;", true)
  | 1 => ("RingShepherds$Ring", "steps", "[I", true)
  | 2 => ("RingShepherds$Ring", "counts", "[I", true)
  | 3 => ("RingShepherds$Ring", "seats", "[I", true)
  | 4 => ("RingShepherds$Ring", "turned", "[I", true)
  | 5 => ("RingShepherds$Ring", "kindOf", "[I", true)
  | 6 => ("RingShepherds$Ring", "edgeOf", "[I", true)
  | 7 => ("RingShepherds$Ring", "placeOf", "[I", true)
  | 8 => ("RingShepherds$Ring", "stepOf", "[I", true)
  | 9 => ("RingShepherds$Ring", "places", "I", false)
  | 10 => ("RingShepherds$Ring", "moons", "I", false)
  | 11 => ("RingShepherds$Ring", "rounds", "I", false)
  | _ => ("RingShepherds$Ring", "strays", "I", false)
def tyX5 : Nat → FieldType := fun k => match k with
  | 0 => .array (.object "RingShepherds$Plain")
  | 1 => .array .int
  | 2 => .array .int
  | 3 => .array .int
  | 4 => .array .int
  | 5 => .array .int
  | 6 => .array .int
  | 7 => .array .int
  | 8 => .array .int
  | 9 => .int
  | 10 => .int
  | 11 => .int
  | _ => .int
abbrev wsX50 : List Cond := u_ws RX5 TX5 13
theorem nmX5 : ∀ a, a < 13 → ∀ b, b < 13 → a ≠ b → (TX5 a).2.1 ≠ (TX5 b).2.1 := by decide +kernel
theorem tyX5_ok : ∀ k, k < 13 → parseFieldDescriptor (TX5 k).2.2.1 = some (tyX5 k) := by decide +kernel
abbrev cX5_init : ByteArray := prog_7_method_1_code
def yX5_init : MethodName := ⟨RX5, "<init>", "([LRingShepherds$Plain;)V"⟩
abbrev cX5_begin : ByteArray := prog_7_method_2_code
def yX5_begin : MethodName := ⟨RX5, "begin", "(I)V"⟩
abbrev cX5_copy : ByteArray := prog_7_method_3_code
def yX5_copy : MethodName := ⟨RX5, "copy", "(LRingShepherds$Ring;)V"⟩
abbrev cX5_goBackTo : ByteArray := prog_7_method_4_code
def yX5_goBackTo : MethodName := ⟨RX5, "goBackTo", "(LRingShepherds$Ring;)V"⟩
abbrev cX5_around : ByteArray := prog_7_method_5_code
def yX5_around : MethodName := ⟨RX5, "around", "(I)I"⟩
abbrev cX5_lumpsAt : ByteArray := prog_7_method_6_code
def yX5_lumpsAt : MethodName := ⟨RX5, "lumpsAt", "(II)I"⟩
abbrev cX5_setLumps : ByteArray := prog_7_method_7_code
def yX5_setLumps : MethodName := ⟨RX5, "setLumps", "(III)V"⟩
abbrev cX5_seat : ByteArray := prog_7_method_8_code
def yX5_seat : MethodName := ⟨RX5, "seat", "(II)I"⟩
abbrev cX5_lumpsIn : ByteArray := prog_7_method_9_code
def yX5_lumpsIn : MethodName := ⟨RX5, "lumpsIn", "(I)I"⟩
abbrev cX5_lumpsInAll : ByteArray := prog_7_method_10_code
def yX5_lumpsInAll : MethodName := ⟨RX5, "lumpsInAll", "()I"⟩
abbrev cX5_isClear : ByteArray := prog_7_method_11_code
def yX5_isClear : MethodName := ⟨RX5, "isClear", "(I)Z"⟩
abbrev cX5_addMoon : ByteArray := prog_7_method_12_code
def yX5_addMoon : MethodName := ⟨RX5, "addMoon", "(IIII)I"⟩
abbrev cX5_aboutMoon : ByteArray := prog_7_method_13_code
def yX5_aboutMoon : MethodName := ⟨RX5, "aboutMoon", "(II)I"⟩
abbrev cX5_moveMoon : ByteArray := prog_7_method_14_code
def yX5_moveMoon : MethodName := ⟨RX5, "moveMoon", "(II)V"⟩
abbrev cX5_keepMoons : ByteArray := prog_7_method_15_code
def yX5_keepMoons : MethodName := ⟨RX5, "keepMoons", "(I)V"⟩
abbrev cX5_goOn : ByteArray := prog_7_method_16_code
def yX5_goOn : MethodName := ⟨RX5, "goOn", "()I"⟩
abbrev cX5_goOnBy : ByteArray := prog_7_method_17_code
def yX5_goOnBy : MethodName := ⟨RX5, "goOnBy", "(I)I"⟩
abbrev cX5_passBy : ByteArray := prog_7_method_18_code
def yX5_passBy : MethodName := ⟨RX5, "passBy", "(I)I"⟩
abbrev cX5_takeAll : ByteArray := prog_7_method_19_code
def yX5_takeAll : MethodName := ⟨RX5, "takeAll", "(II)I"⟩
abbrev cX5_put : ByteArray := prog_7_method_20_code
def yX5_put : MethodName := ⟨RX5, "put", "(III)I"⟩
abbrev cX5_pushOf : ByteArray := prog_7_method_21_code
def yX5_pushOf : MethodName := ⟨RX5, "pushOf", "(IIII)I"⟩
abbrev cX5_comesRound : ByteArray := prog_7_method_22_code
def yX5_comesRound : MethodName := ⟨RX5, "comesRound", "()I"⟩
abbrev cX5_isRoundBehind : ByteArray := prog_7_method_23_code
def yX5_isRoundBehind : MethodName := ⟨RX5, "isRoundBehind", "(I)Z"⟩
abbrev cX5_addTo : ByteArray := prog_7_method_24_code
def yX5_addTo : MethodName := ⟨RX5, "addTo", "(J)J"⟩
def RX6 : String := "RingShepherds$Sleepy"
def TX6 : u_T := fun k => match k with
  | _ => ("", "", "", false)
def tyX6 : Nat → FieldType := fun k => match k with
  | _ => .int
abbrev wsX60 : List Cond := u_ws RX6 TX6 0
theorem nmX6 : ∀ a, a < 0 → ∀ b, b < 0 → a ≠ b → (TX6 a).2.1 ≠ (TX6 b).2.1 := by decide +kernel
theorem tyX6_ok : ∀ k, k < 0 → parseFieldDescriptor (TX6 k).2.2.1 = some (tyX6 k) := by decide +kernel
abbrev cX6_init : ByteArray := prog_8_method_1_code
def yX6_init : MethodName := ⟨RX6, "<init>", "()V"⟩
abbrev cX6_isAwake : ByteArray := prog_8_method_2_code
def yX6_isAwake : MethodName := ⟨RX6, "isAwake", "(I)Z"⟩
def RX7 : String := "RingShepherds$Story"
def TX7 : u_T := fun k => match k with
  | 0 => ("RingShepherds$Story", "ring", "LRingShepherds$Ring;", true)
  | 1 => ("RingShepherds$Story", "pasts", "[LRingShepherds$Ring;", true)
  | 2 => ("RingShepherds$Story", "newest", "I", false)
  | _ => ("RingShepherds$Story", "undoable", "I", false)
def tyX7 : Nat → FieldType := fun k => match k with
  | 0 => .object "RingShepherds$Ring"
  | 1 => .array (.object "RingShepherds$Ring")
  | 2 => .int
  | _ => .int
abbrev wsX70 : List Cond := u_ws RX7 TX7 4
theorem nmX7 : ∀ a, a < 4 → ∀ b, b < 4 → a ≠ b → (TX7 a).2.1 ≠ (TX7 b).2.1 := by decide +kernel
theorem tyX7_ok : ∀ k, k < 4 → parseFieldDescriptor (TX7 k).2.2.1 = some (tyX7 k) := by decide +kernel
abbrev cX7_init : ByteArray := prog_9_method_1_code
def yX7_init : MethodName := ⟨RX7, "<init>", "([LRingShepherds$Plain;)V"⟩
abbrev cX7_copy : ByteArray := prog_9_method_2_code
def yX7_copy : MethodName := ⟨RX7, "copy", "(LRingShepherds$Story;)V"⟩
abbrev cX7_forget : ByteArray := prog_9_method_3_code
def yX7_forget : MethodName := ⟨RX7, "forget", "()V"⟩
abbrev cX7_goOn : ByteArray := prog_9_method_4_code
def yX7_goOn : MethodName := ⟨RX7, "goOn", "()I"⟩
abbrev cX7_goBack : ByteArray := prog_9_method_5_code
def yX7_goBack : MethodName := ⟨RX7, "goBack", "()V"⟩
def RX8 : String := "RingShepherds$Strong"
def TX8 : u_T := fun k => match k with
  | _ => ("", "", "", false)
def tyX8 : Nat → FieldType := fun k => match k with
  | _ => .int
abbrev wsX80 : List Cond := u_ws RX8 TX8 0
theorem nmX8 : ∀ a, a < 0 → ∀ b, b < 0 → a ≠ b → (TX8 a).2.1 ≠ (TX8 b).2.1 := by decide +kernel
theorem tyX8_ok : ∀ k, k < 0 → parseFieldDescriptor (TX8 k).2.2.1 = some (tyX8 k) := by decide +kernel
abbrev cX8_init : ByteArray := prog_10_method_1_code
def yX8_init : MethodName := ⟨RX8, "<init>", "()V"⟩
abbrev cX8_force : ByteArray := prog_10_method_2_code
def yX8_force : MethodName := ⟨RX8, "force", "()I"⟩
def RX9 : String := "RingShepherds$Text"
def TX9 : u_T := fun k => match k with
  | 0 => ("RingShepherds$Text", "bytes", "[I", true)
  | 1 => ("RingShepherds$Text", "size", "I", false)
  | 2 => ("RingShepherds$Text", "token", "I", false)
  | 3 => ("RingShepherds$Text", "start", "I", false)
  | _ => ("RingShepherds$Text", "end", "I", false)
def tyX9 : Nat → FieldType := fun k => match k with
  | 0 => .array .int
  | 1 => .int
  | 2 => .int
  | 3 => .int
  | _ => .int
abbrev wsX90 : List Cond := u_ws RX9 TX9 5
theorem nmX9 : ∀ a, a < 5 → ∀ b, b < 5 → a ≠ b → (TX9 a).2.1 ≠ (TX9 b).2.1 := by decide +kernel
theorem tyX9_ok : ∀ k, k < 5 → parseFieldDescriptor (TX9 k).2.2.1 = some (tyX9 k) := by decide +kernel
abbrev cX9_init : ByteArray := prog_11_method_1_code
def yX9_init : MethodName := ⟨RX9, "<init>", "()V"⟩
abbrev cX9_add : ByteArray := prog_11_method_2_code
def yX9_add : MethodName := ⟨RX9, "add", "(JI)V"⟩
abbrev cX9_rewind : ByteArray := prog_11_method_3_code
def yX9_rewind : MethodName := ⟨RX9, "rewind", "()V"⟩
abbrev cX9_nextToken : ByteArray := prog_11_method_4_code
def yX9_nextToken : MethodName := ⟨RX9, "nextToken", "()V"⟩
abbrev cX9_begunBy : ByteArray := prog_11_method_5_code
def yX9_begunBy : MethodName := ⟨RX9, "begunBy", "(I)I"⟩
abbrev cX9_number : ByteArray := prog_11_method_6_code
def yX9_number : MethodName := ⟨RX9, "number", "()I"⟩
abbrev cX9_isWord : ByteArray := prog_11_method_7_code
def yX9_isWord : MethodName := ⟨RX9, "isWord", "(Ljava/lang/String;)Z"⟩
def RX10 : String := "RingShepherds$Wide"
def TX10 : u_T := fun k => match k with
  | _ => ("", "", "", false)
def tyX10 : Nat → FieldType := fun k => match k with
  | _ => .int
abbrev wsX100 : List Cond := u_ws RX10 TX10 0
theorem nmX10 : ∀ a, a < 0 → ∀ b, b < 0 → a ≠ b → (TX10 a).2.1 ≠ (TX10 b).2.1 := by decide +kernel
theorem tyX10_ok : ∀ k, k < 0 → parseFieldDescriptor (TX10 k).2.2.1 = some (tyX10 k) := by decide +kernel
abbrev cX10_init : ByteArray := prog_12_method_1_code
def yX10_init : MethodName := ⟨RX10, "<init>", "()V"⟩
abbrev cX10_reach : ByteArray := prog_12_method_2_code
def yX10_reach : MethodName := ⟨RX10, "reach", "()I"⟩
def RX11 : String := "RingShepherds"
def TX11 : u_T := fun k => match k with
  | 0 => ("RingShepherds", "now", "LRingShepherds$Story;", true)
  | 1 => ("RingShepherds", "images", "[LRingShepherds$Story;", true)
  | 2 => ("RingShepherds", "kept", "[Z", true)
  | 3 => ("RingShepherds", "course", "LRingShepherds$Course;", true)
  | 4 => ("RingShepherds", "text", "LRingShepherds$Text;", true)
  | 5 => ("RingShepherds", "reader", "LRingShepherds$Reader;", true)
  | 6 => ("RingShepherds", "refused", "[I", true)
  | 7 => ("RingShepherds", "above", "J", false)
  | _ => ("RingShepherds", "below", "J", false)
def tyX11 : Nat → FieldType := fun k => match k with
  | 0 => .object "RingShepherds$Story"
  | 1 => .array (.object "RingShepherds$Story")
  | 2 => .array .boolean
  | 3 => .object "RingShepherds$Course"
  | 4 => .object "RingShepherds$Text"
  | 5 => .object "RingShepherds$Reader"
  | 6 => .array .int
  | 7 => .long
  | _ => .long
abbrev wsX110 : List Cond := u_ws RX11 TX11 9
theorem nmX11 : ∀ a, a < 9 → ∀ b, b < 9 → a ≠ b → (TX11 a).2.1 ≠ (TX11 b).2.1 := by decide +kernel
theorem tyX11_ok : ∀ k, k < 9 → parseFieldDescriptor (TX11 k).2.2.1 = some (tyX11 k) := by decide +kernel
abbrev cX11_init : ByteArray := prog_1_method_1_code
def yX11_init : MethodName := ⟨RX11, "<init>", "()V"⟩
abbrev cX11_ring : ByteArray := prog_1_method_2_code
def yX11_ring : MethodName := ⟨RX11, "ring", "(I)I"⟩
abbrev cX11_step : ByteArray := prog_1_method_3_code
def yX11_step : MethodName := ⟨RX11, "step", "(II)I"⟩
abbrev cX11_lumps : ByteArray := prog_1_method_4_code
def yX11_lumps : MethodName := ⟨RX11, "lumps", "(III)I"⟩
abbrev cX11_moon : ByteArray := prog_1_method_5_code
def yX11_moon : MethodName := ⟨RX11, "moon", "(IIII)I"⟩
abbrev cX11_type : ByteArray := prog_1_method_6_code
def yX11_type : MethodName := ⟨RX11, "type", "(JI)I"⟩
abbrev cX11_clear : ByteArray := prog_1_method_7_code
def yX11_clear : MethodName := ⟨RX11, "clear", "()I"⟩
abbrev cX11_read : ByteArray := prog_1_method_8_code
def yX11_read : MethodName := ⟨RX11, "read", "()I"⟩
abbrev cX11_round : ByteArray := prog_1_method_9_code
def yX11_round : MethodName := ⟨RX11, "round", "()I"⟩
abbrev cX11_undo : ByteArray := prog_1_method_10_code
def yX11_undo : MethodName := ⟨RX11, "undo", "()I"⟩
abbrev cX11_there : ByteArray := prog_1_method_11_code
def yX11_there : MethodName := ⟨RX11, "there", "(II)I"⟩
abbrev cX11_about : ByteArray := prog_1_method_12_code
def yX11_about : MethodName := ⟨RX11, "about", "(II)I"⟩
abbrev cX11_where : ByteArray := prog_1_method_13_code
def yX11_where : MethodName := ⟨RX11, "where", "(IIII)I"⟩
abbrev cX11_loss : ByteArray := prog_1_method_14_code
def yX11_loss : MethodName := ⟨RX11, "loss", "(I)I"⟩
abbrev cX11_pushes : ByteArray := prog_1_method_15_code
def yX11_pushes : MethodName := ⟨RX11, "pushes", "(I)I"⟩
abbrev cX11_moved : ByteArray := prog_1_method_16_code
def yX11_moved : MethodName := ⟨RX11, "moved", "(II)I"⟩
abbrev cX11_road : ByteArray := prog_1_method_17_code
def yX11_road : MethodName := ⟨RX11, "road", "(III)I"⟩
abbrev cX11_back : ByteArray := prog_1_method_18_code
def yX11_back : MethodName := ⟨RX11, "back", "()I"⟩
abbrev cX11_told : ByteArray := prog_1_method_19_code
def yX11_told : MethodName := ⟨RX11, "told", "(II)I"⟩
abbrev cX11_taken : ByteArray := prog_1_method_20_code
def yX11_taken : MethodName := ⟨RX11, "taken", "(II)I"⟩
abbrev cX11_game : ByteArray := prog_1_method_21_code
def yX11_game : MethodName := ⟨RX11, "game", "(II)I"⟩
abbrev cX11_fee : ByteArray := prog_1_method_22_code
def yX11_fee : MethodName := ⟨RX11, "fee", "(II)I"⟩
abbrev cX11_part : ByteArray := prog_1_method_23_code
def yX11_part : MethodName := ⟨RX11, "part", "(I)J"⟩
abbrev cX11_image : ByteArray := prog_1_method_24_code
def yX11_image : MethodName := ⟨RX11, "image", "(I)I"⟩
abbrev cX11_from : ByteArray := prog_1_method_25_code
def yX11_from : MethodName := ⟨RX11, "from", "(I)I"⟩
abbrev cX11_status : ByteArray := prog_1_method_26_code
def yX11_status : MethodName := ⟨RX11, "status", "(I)I"⟩
abbrev cX11_count : ByteArray := prog_1_method_27_code
def yX11_count : MethodName := ⟨RX11, "count", "(I)I"⟩
abbrev cX11_digest : ByteArray := prog_1_method_28_code
def yX11_digest : MethodName := ⟨RX11, "digest", "()J"⟩
abbrev cX11_counted : ByteArray := prog_1_method_29_code
def yX11_counted : MethodName := ⟨RX11, "counted", "(I)I"⟩
abbrev cX11_refuse : ByteArray := prog_1_method_30_code
def yX11_refuse : MethodName := ⟨RX11, "refuse", "(II)I"⟩
abbrev cX11_isPlace : ByteArray := prog_1_method_31_code
def yX11_isPlace : MethodName := ⟨RX11, "isPlace", "(I)Z"⟩
abbrev cX11_isMoon : ByteArray := prog_1_method_32_code
def yX11_isMoon : MethodName := ⟨RX11, "isMoon", "(I)Z"⟩
abbrev cX11_isRounds : ByteArray := prog_1_method_33_code
def yX11_isRounds : MethodName := ⟨RX11, "isRounds", "(I)Z"⟩
abbrev cX11_isLane : ByteArray := prog_1_method_34_code
def yX11_isLane : MethodName := ⟨RX11, "isLane", "(I)Z"⟩
abbrev cX11_isWithin : ByteArray := prog_1_method_35_code
def yX11_isWithin : MethodName := ⟨RX11, "isWithin", "(III)Z"⟩
abbrev cX11_greatestDivisor : ByteArray := prog_1_method_36_code
def yX11_greatestDivisor : MethodName := ⟨RX11, "greatestDivisor", "(JJ)J"⟩
def RX12 : String := "RingShepherdsModel"
def TX12 : u_T := fun k => match k with
  | 0 => ("RingShepherdsModel", "now", "[I", true)
  | 1 => ("RingShepherdsModel", "kept", "[I", true)
  | 2 => ("RingShepherdsModel", "isKept", "[Z", true)
  | 3 => ("RingShepherdsModel", "refused", "[I", true)
  | 4 => ("RingShepherdsModel", "above", "J", false)
  | 5 => ("RingShepherdsModel", "below", "J", false)
  | 6 => ("RingShepherdsModel", "hand", "[I", true)
  | 7 => ("RingShepherdsModel", "then", "[I", true)
  | 8 => ("RingShepherdsModel", "moonAt", "[I", true)
  | 9 => ("RingShepherdsModel", "number", "I", false)
  | 10 => ("RingShepherdsModel", "some", "I", false)
  | 11 => ("RingShepherdsModel", "oneLane", "I", false)
  | 12 => ("RingShepherdsModel", "onePlace", "I", false)
  | 13 => ("RingShepherdsModel", "oneMoved", "I", false)
  | 14 => ("RingShepherdsModel", "need", "[I", true)
  | 15 => ("RingShepherdsModel", "lanesThen", "[I", true)
  | 16 => ("RingShepherdsModel", "ahead", "[I", true)
  | 17 => ("RingShepherdsModel", "bytes", "[I", true)
  | 18 => ("RingShepherdsModel", "bytesLong", "I", false)
  | 19 => ("RingShepherdsModel", "tokenAt", "I", false)
  | 20 => ("RingShepherdsModel", "tokenLong", "I", false)
  | 21 => ("RingShepherdsModel", "token", "I", false)
  | 22 => ("RingShepherdsModel", "value", "I", false)
  | 23 => ("RingShepherdsModel", "next", "[I", true)
  | _ => ("RingShepherdsModel", "values", "[I", true)
def tyX12 : Nat → FieldType := fun k => match k with
  | 0 => .array .int
  | 1 => .array .int
  | 2 => .array .boolean
  | 3 => .array .int
  | 4 => .long
  | 5 => .long
  | 6 => .array .int
  | 7 => .array .int
  | 8 => .array .int
  | 9 => .int
  | 10 => .int
  | 11 => .int
  | 12 => .int
  | 13 => .int
  | 14 => .array .int
  | 15 => .array .int
  | 16 => .array .int
  | 17 => .array .int
  | 18 => .int
  | 19 => .int
  | 20 => .int
  | 21 => .int
  | 22 => .int
  | 23 => .array .int
  | _ => .array .int
abbrev wsX120 : List Cond := u_ws RX12 TX12 25
theorem nmX12 : ∀ a, a < 25 → ∀ b, b < 25 → a ≠ b → (TX12 a).2.1 ≠ (TX12 b).2.1 := by decide +kernel
theorem tyX12_ok : ∀ k, k < 25 → parseFieldDescriptor (TX12 k).2.2.1 = some (tyX12 k) := by decide +kernel
abbrev cX12_init : ByteArray := prog_14_method_1_code
def yX12_init : MethodName := ⟨RX12, "<init>", "()V"⟩
abbrev cX12_in : ByteArray := prog_14_method_3_code
def yX12_in : MethodName := ⟨RX12, "in", "(JJJ)Z"⟩
abbrev cX12_bad : ByteArray := prog_14_method_4_code
def yX12_bad : MethodName := ⟨RX12, "bad", "(I)I"⟩
abbrev cX12_no : ByteArray := prog_14_method_5_code
def yX12_no : MethodName := ⟨RX12, "no", "()I"⟩
abbrev cX12_full : ByteArray := prog_14_method_6_code
def yX12_full : MethodName := ⟨RX12, "full", "()I"⟩
abbrev cX12_bits : ByteArray := prog_14_method_7_code
def yX12_bits : MethodName := ⟨RX12, "bits", "(I)I"⟩
abbrev cX12_begin : ByteArray := prog_14_method_8_code
def yX12_begin : MethodName := ⟨RX12, "begin", "([II)V"⟩
abbrev cX12_places : ByteArray := prog_14_method_9_code
def yX12_places : MethodName := ⟨RX12, "places", "()I"⟩
abbrev cX12_moons : ByteArray := prog_14_method_10_code
def yX12_moons : MethodName := ⟨RX12, "moons", "()I"⟩
abbrev cX12_isLane : ByteArray := prog_14_method_11_code
def yX12_isLane : MethodName := ⟨RX12, "isLane", "(I)Z"⟩
abbrev cX12_isPlace : ByteArray := prog_14_method_12_code
def yX12_isPlace : MethodName := ⟨RX12, "isPlace", "(I)Z"⟩
abbrev cX12_isMoon : ByteArray := prog_14_method_13_code
def yX12_isMoon : MethodName := ⟨RX12, "isMoon", "(I)Z"⟩
abbrev cX12_of : ByteArray := prog_14_method_14_code
def yX12_of : MethodName := ⟨RX12, "of", "(II)I"⟩
abbrev cX12_ring : ByteArray := prog_14_method_15_code
def yX12_ring : MethodName := ⟨RX12, "ring", "(I)I"⟩
abbrev cX12_step : ByteArray := prog_14_method_16_code
def yX12_step : MethodName := ⟨RX12, "step", "(II)I"⟩
abbrev cX12_lumps : ByteArray := prog_14_method_17_code
def yX12_lumps : MethodName := ⟨RX12, "lumps", "(III)I"⟩
abbrev cX12_layMoon : ByteArray := prog_14_method_18_code
def yX12_layMoon : MethodName := ⟨RX12, "layMoon", "([IIIII)V"⟩
abbrev cX12_moon : ByteArray := prog_14_method_19_code
def yX12_moon : MethodName := ⟨RX12, "moon", "(IIII)I"⟩
abbrev cX12_takeNow : ByteArray := prog_14_method_20_code
def yX12_takeNow : MethodName := ⟨RX12, "takeNow", "(I)V"⟩
abbrev cX12_all : ByteArray := prog_14_method_21_code
def yX12_all : MethodName := ⟨RX12, "all", "()I"⟩
abbrev cX12_isAwake : ByteArray := prog_14_method_22_code
def yX12_isAwake : MethodName := ⟨RX12, "isAwake", "(I)Z"⟩
abbrev cX12_isBy : ByteArray := prog_14_method_23_code
def yX12_isBy : MethodName := ⟨RX12, "isBy", "(II)Z"⟩
abbrev cX12_movedTo : ByteArray := prog_14_method_24_code
def yX12_movedTo : MethodName := ⟨RX12, "movedTo", "(II)I"⟩
abbrev cX12_isBeside : ByteArray := prog_14_method_25_code
def yX12_isBeside : MethodName := ⟨RX12, "isBeside", "(II)Z"⟩
abbrev cX12_goMoon : ByteArray := prog_14_method_26_code
def yX12_goMoon : MethodName := ⟨RX12, "goMoon", "(I)I"⟩
abbrev cX12_goMoons : ByteArray := prog_14_method_27_code
def yX12_goMoons : MethodName := ⟨RX12, "goMoons", "()V"⟩
abbrev cX12_goRound : ByteArray := prog_14_method_28_code
def yX12_goRound : MethodName := ⟨RX12, "goRound", "()I"⟩
abbrev cX12_round : ByteArray := prog_14_method_29_code
def yX12_round : MethodName := ⟨RX12, "round", "()I"⟩
abbrev cX12_undo : ByteArray := prog_14_method_30_code
def yX12_undo : MethodName := ⟨RX12, "undo", "()I"⟩
abbrev cX12_sumOf : ByteArray := prog_14_method_31_code
def yX12_sumOf : MethodName := ⟨RX12, "sumOf", "([III)I"⟩
abbrev cX12_there : ByteArray := prog_14_method_32_code
def yX12_there : MethodName := ⟨RX12, "there", "(II)I"⟩
abbrev cX12_about : ByteArray := prog_14_method_33_code
def yX12_about : MethodName := ⟨RX12, "about", "(II)I"⟩
abbrev cX12_goOne : ByteArray := prog_14_method_34_code
def yX12_goOne : MethodName := ⟨RX12, "goOne", "()V"⟩
abbrev cX12_goOneOn : ByteArray := prog_14_method_35_code
def yX12_goOneOn : MethodName := ⟨RX12, "goOneOn", "(III)V"⟩
abbrev cX12_isLong : ByteArray := prog_14_method_36_code
def yX12_isLong : MethodName := ⟨RX12, "isLong", "(I)Z"⟩
abbrev cX12_where : ByteArray := prog_14_method_37_code
def yX12_where : MethodName := ⟨RX12, "where", "(IIII)I"⟩
abbrev cX12_lossOf : ByteArray := prog_14_method_38_code
def yX12_lossOf : MethodName := ⟨RX12, "lossOf", "(II)I"⟩
abbrev cX12_loss : ByteArray := prog_14_method_39_code
def yX12_loss : MethodName := ⟨RX12, "loss", "(I)I"⟩
abbrev cX12_behind : ByteArray := prog_14_method_40_code
def yX12_behind : MethodName := ⟨RX12, "behind", "(III)I"⟩
abbrev cX12_pushes : ByteArray := prog_14_method_41_code
def yX12_pushes : MethodName := ⟨RX12, "pushes", "(I)I"⟩
abbrev cX12_moved : ByteArray := prog_14_method_42_code
def yX12_moved : MethodName := ⟨RX12, "moved", "(II)I"⟩
abbrev cX12_isRoad : ByteArray := prog_14_method_43_code
def yX12_isRoad : MethodName := ⟨RX12, "isRoad", "(I)Z"⟩
abbrev cX12_road : ByteArray := prog_14_method_44_code
def yX12_road : MethodName := ⟨RX12, "road", "(III)I"⟩
abbrev cX12_common : ByteArray := prog_14_method_45_code
def yX12_common : MethodName := ⟨RX12, "common", "(II)I"⟩
abbrev cX12_turns : ByteArray := prog_14_method_46_code
def yX12_turns : MethodName := ⟨RX12, "turns", "(I)I"⟩
abbrev cX12_back : ByteArray := prog_14_method_47_code
def yX12_back : MethodName := ⟨RX12, "back", "()I"⟩
abbrev cX12_told : ByteArray := prog_14_method_48_code
def yX12_told : MethodName := ⟨RX12, "told", "(II)I"⟩
abbrev cX12_isTold : ByteArray := prog_14_method_49_code
def yX12_isTold : MethodName := ⟨RX12, "isTold", "(II)Z"⟩
abbrev cX12_taken : ByteArray := prog_14_method_50_code
def yX12_taken : MethodName := ⟨RX12, "taken", "(II)I"⟩
abbrev cX12_laneSum : ByteArray := prog_14_method_51_code
def yX12_laneSum : MethodName := ⟨RX12, "laneSum", "(I)I"⟩
abbrev cX12_game : ByteArray := prog_14_method_52_code
def yX12_game : MethodName := ⟨RX12, "game", "(II)I"⟩
abbrev cX12_factorial : ByteArray := prog_14_method_53_code
def yX12_factorial : MethodName := ⟨RX12, "factorial", "(I)I"⟩
abbrev cX12_fee : ByteArray := prog_14_method_54_code
def yX12_fee : MethodName := ⟨RX12, "fee", "(II)I"⟩
abbrev cX12_type : ByteArray := prog_14_method_55_code
def yX12_type : MethodName := ⟨RX12, "type", "(JI)I"⟩
abbrev cX12_clear : ByteArray := prog_14_method_56_code
def yX12_clear : MethodName := ⟨RX12, "clear", "()I"⟩
abbrev cX12_isSmall : ByteArray := prog_14_method_57_code
def yX12_isSmall : MethodName := ⟨RX12, "isSmall", "(I)Z"⟩
abbrev cX12_isFigure : ByteArray := prog_14_method_58_code
def yX12_isFigure : MethodName := ⟨RX12, "isFigure", "(I)Z"⟩
abbrev cX12_look : ByteArray := prog_14_method_59_code
def yX12_look : MethodName := ⟨RX12, "look", "(I)V"⟩
abbrev cX12_goOn : ByteArray := prog_14_method_60_code
def yX12_goOn : MethodName := ⟨RX12, "goOn", "()V"⟩
abbrev cX12_isWord : ByteArray := prog_14_method_61_code
def yX12_isWord : MethodName := ⟨RX12, "isWord", "(IIIII)Z"⟩
abbrev cX12_takes : ByteArray := prog_14_method_62_code
def yX12_takes : MethodName := ⟨RX12, "takes", "(III)Z"⟩
abbrev cX12_readsFirst : ByteArray := prog_14_method_63_code
def yX12_readsFirst : MethodName := ⟨RX12, "readsFirst", "()Z"⟩
abbrev cX12_lastPlace : ByteArray := prog_14_method_64_code
def yX12_lastPlace : MethodName := ⟨RX12, "lastPlace", "()I"⟩
abbrev cX12_readsItem : ByteArray := prog_14_method_65_code
def yX12_readsItem : MethodName := ⟨RX12, "readsItem", "()Z"⟩
abbrev cX12_read : ByteArray := prog_14_method_66_code
def yX12_read : MethodName := ⟨RX12, "read", "()I"⟩
abbrev cX12_part : ByteArray := prog_14_method_67_code
def yX12_part : MethodName := ⟨RX12, "part", "(I)J"⟩
abbrev cX12_image : ByteArray := prog_14_method_68_code
def yX12_image : MethodName := ⟨RX12, "image", "(I)I"⟩
abbrev cX12_from : ByteArray := prog_14_method_69_code
def yX12_from : MethodName := ⟨RX12, "from", "(I)I"⟩
abbrev cX12_status : ByteArray := prog_14_method_70_code
def yX12_status : MethodName := ⟨RX12, "status", "(I)I"⟩
abbrev cX12_counted : ByteArray := prog_14_method_71_code
def yX12_counted : MethodName := ⟨RX12, "counted", "(I)I"⟩
abbrev cX12_count : ByteArray := prog_14_method_72_code
def yX12_count : MethodName := ⟨RX12, "count", "(I)I"⟩
abbrev cX12_sums : ByteArray := prog_14_method_73_code
def yX12_sums : MethodName := ⟨RX12, "sums", "(JII)J"⟩
abbrev cX12_digest : ByteArray := prog_14_method_74_code
def yX12_digest : MethodName := ⟨RX12, "digest", "()J"⟩
def RJ6 : String := "java/lang/Integer"
abbrev cJ6_bitCount_0f7a4 : ByteArray := prog_15_method_49_code
def yJ6_bitCount_0f7a4 : MethodName := ⟨RJ6, "bitCount", "(I)I"⟩
def RJ9 : String := "java/lang/Math"
abbrev cJ9_abs_067f4 : ByteArray := prog_16_method_61_code
def yJ9_abs_067f4 : MethodName := ⟨RJ9, "abs", "(J)J"⟩
abbrev cJ9_min_7cf53 : ByteArray := prog_16_method_69_code
def yJ9_min_7cf53 : MethodName := ⟨RJ9, "min", "(II)I"⟩
def RJ0 : String := "java/lang/String"
abbrev cJ0_length_8abf5 : ByteArray := prog_17_method_54_code
def yJ0_length_8abf5 : MethodName := ⟨RJ0, "length", "()I"⟩
abbrev cJ0_charAt_5068e : ByteArray := prog_17_method_56_code
def yJ0_charAt_5068e : MethodName := ⟨RJ0, "charAt", "(I)C"⟩
abbrev cJ0_coder_7d493 : ByteArray := prog_17_method_152_code
def yJ0_coder_7d493 : MethodName := ⟨RJ0, "coder", "()B"⟩
abbrev cJ0_isLatin1_aae02 : ByteArray := prog_17_method_154_code
def yJ0_isLatin1_aae02 : MethodName := ⟨RJ0, "isLatin1", "()Z"⟩
abbrev cJ0_checkIndex_df160 : ByteArray := prog_17_method_155_code
def yJ0_checkIndex_df160 : MethodName := ⟨RJ0, "checkIndex", "(II)V"⟩
def RJ1 : String := "java/lang/StringLatin1"
abbrev cJ1_charAt_3b067 : ByteArray := prog_18_method_2_code
def yJ1_charAt_3b067 : MethodName := ⟨RJ1, "charAt", "([BI)C"⟩
def RJ2 : String := "java/lang/StringUTF16"
abbrev cJ2_getChar_3b067 : ByteArray := prog_19_method_5_code
def yJ2_getChar_3b067 : MethodName := ⟨RJ2, "getChar", "([BI)C"⟩
abbrev cJ2_length_9d52b : ByteArray := prog_19_method_6_code
def yJ2_length_9d52b : MethodName := ⟨RJ2, "length", "([B)I"⟩
abbrev cJ2_charAt_3b067 : ByteArray := prog_19_method_83_code
def yJ2_charAt_3b067 : MethodName := ⟨RJ2, "charAt", "([BI)C"⟩
abbrev cJ2_checkIndex_2214a : ByteArray := prog_19_method_91_code
def yJ2_checkIndex_2214a : MethodName := ⟨RJ2, "checkIndex", "(I[B)V"⟩
def RJ10 : String := "java/lang/System"
def RJ7 : String := "java/util/Arrays"
abbrev cJ7_fill_53178 : ByteArray := prog_21_method_103_code
def yJ7_fill_53178 : MethodName := ⟨RJ7, "fill", "([II)V"⟩
def RJ3 : String := "jdk/internal/util/Preconditions"
abbrev cJ3_checkIndex_8e157 : ByteArray := prog_22_method_11_code
def yJ3_checkIndex_8e157 : MethodName := ⟨RJ3, "checkIndex", "(IILjava/util/function/BiFunction;)I"⟩
def RL : String := "RingShepherdsLaw"
abbrev cL_law : ByteArray := code
def yL_law : MethodName := ⟨RL, "law", "([I)Z"⟩
abbrev vwCl : List vw_C := [(RX0, TX0, 8), (RX1, TX1, 0), (RX2, TX2, 3), (RX3, TX3, 0), (RX4, TX4, 3), (RX5, TX5, 13), (RX6, TX6, 0), (RX7, TX7, 4), (RX8, TX8, 0), (RX9, TX9, 5), (RX10, TX10, 0), (RX11, TX11, 9), (RX12, TX12, 25)]
end
section
theorem dX0_init_0 : decode cX0_init 0 = .ok (.aload_n 0, 1) := by decide +kernel
theorem dX0_init_1 : decode cX0_init 1 = .ok (.invokespecial 3, 3) := by decide +kernel
theorem dX0_init_4 : decode cX0_init 4 = .ok (.aload_n 0, 1) := by decide +kernel
theorem dX0_init_5 : decode cX0_init 5 = .ok (.aload_n 1, 1) := by decide +kernel
theorem dX0_init_6 : decode cX0_init 6 = .ok (.putfield 9, 3) := by decide +kernel
theorem dX0_init_9 : decode cX0_init 9 = .ok (.aload_n 0, 1) := by decide +kernel
theorem dX0_init_10 : decode cX0_init 10 = .ok (.aload_n 2, 1) := by decide +kernel
theorem dX0_init_11 : decode cX0_init 11 = .ok (.putfield 15, 3) := by decide +kernel
theorem dX0_init_14 : decode cX0_init 14 = .ok (.aload_n 0, 1) := by decide +kernel
theorem dX0_init_15 : decode cX0_init 15 = .ok (.new 18, 3) := by decide +kernel
theorem dX0_init_18 : decode cX0_init 18 = .ok (.dup, 1) := by decide +kernel
theorem dX0_init_19 : decode cX0_init 19 = .ok (.invokespecial 20, 3) := by decide +kernel
theorem dX0_init_22 : decode cX0_init 22 = .ok (.putfield 21, 3) := by decide +kernel
theorem dX0_init_25 : decode cX0_init 25 = .ok (.aload_n 0, 1) := by decide +kernel
theorem dX0_init_26 : decode cX0_init 26 = .ok (.iconst 5, 1) := by decide +kernel
theorem dX0_init_27 : decode cX0_init 27 = .ok (.newarray .int, 2) := by decide +kernel
theorem dX0_init_29 : decode cX0_init 29 = .ok (.putfield 25, 3) := by decide +kernel
theorem dX0_init_32 : decode cX0_init 32 = .ok (.aload_n 0, 1) := by decide +kernel
theorem dX0_init_33 : decode cX0_init 33 = .ok (.bipush 120, 2) := by decide +kernel
theorem dX0_init_35 : decode cX0_init 35 = .ok (.newarray .int, 2) := by decide +kernel
theorem dX0_init_37 : decode cX0_init 37 = .ok (.putfield 29, 3) := by decide +kernel
theorem dX0_init_40 : decode cX0_init 40 = .ok (.aload_n 0, 1) := by decide +kernel
theorem dX0_init_41 : decode cX0_init 41 = .ok (.bipush 120, 2) := by decide +kernel
theorem dX0_init_43 : decode cX0_init 43 = .ok (.newarray .int, 2) := by decide +kernel
theorem dX0_init_45 : decode cX0_init 45 = .ok (.putfield 32, 3) := by decide +kernel
theorem dX0_init_48 : decode cX0_init 48 = .ok (.aload_n 0, 1) := by decide +kernel
theorem dX0_init_49 : decode cX0_init 49 = .ok (.bipush 120, 2) := by decide +kernel
theorem dX0_init_51 : decode cX0_init 51 = .ok (.newarray .int, 2) := by decide +kernel
theorem dX0_init_53 : decode cX0_init 53 = .ok (.putfield 35, 3) := by decide +kernel
theorem dX0_init_56 : decode cX0_init 56 = .ok (.aload_n 0, 1) := by decide +kernel
theorem dX0_init_57 : decode cX0_init 57 = .ok (.bipush 16, 2) := by decide +kernel
theorem dX0_init_59 : decode cX0_init 59 = .ok (.newarray .int, 2) := by decide +kernel
theorem dX0_init_61 : decode cX0_init 61 = .ok (.putfield 38, 3) := by decide +kernel
theorem dX0_init_64 : decode cX0_init 64 = .ok (.return_, 1) := by decide +kernel
theorem dX0_follow_0 : decode cX0_follow 0 = .ok (.aload_n 0, 1) := by decide +kernel
theorem dX0_follow_1 : decode cX0_follow 1 = .ok (.getfield 21, 3) := by decide +kernel
theorem dX0_follow_4 : decode cX0_follow 4 = .ok (.iload_n 1, 1) := by decide +kernel
theorem dX0_follow_5 : decode cX0_follow 5 = .ok (.iload_n 2, 1) := by decide +kernel
theorem dX0_follow_6 : decode cX0_follow 6 = .ok (.invokevirtual 41, 3) := by decide +kernel
theorem dX0_follow_9 : decode cX0_follow 9 = .ok (.iconst 1, 1) := by decide +kernel
theorem dX0_follow_10 : decode cX0_follow 10 = .ok (.istore 4, 2) := by decide +kernel
theorem dX0_follow_12 : decode cX0_follow 12 = .ok (.iload 4, 2) := by decide +kernel
theorem dX0_follow_14 : decode cX0_follow 14 = .ok (.iload_n 3, 1) := by decide +kernel
theorem dX0_follow_15 : decode cX0_follow 15 = .ok (.if_icmp .gt 32, 3) := by decide +kernel
theorem dX0_follow_18 : decode cX0_follow 18 = .ok (.aload_n 0, 1) := by decide +kernel
theorem dX0_follow_19 : decode cX0_follow 19 = .ok (.getfield 21, 3) := by decide +kernel
theorem dX0_follow_22 : decode cX0_follow 22 = .ok (.invokevirtual 45, 3) := by decide +kernel
theorem dX0_follow_25 : decode cX0_follow 25 = .ok (.ifCond .ne 22, 3) := by decide +kernel
theorem dX0_follow_28 : decode cX0_follow 28 = .ok (.aload_n 0, 1) := by decide +kernel
theorem dX0_follow_29 : decode cX0_follow 29 = .ok (.getfield 21, 3) := by decide +kernel
theorem dX0_follow_32 : decode cX0_follow 32 = .ok (.aload_n 0, 1) := by decide +kernel
theorem dX0_follow_33 : decode cX0_follow 33 = .ok (.getfield 9, 3) := by decide +kernel
theorem dX0_follow_36 : decode cX0_follow 36 = .ok (.iload 4, 2) := by decide +kernel
theorem dX0_follow_38 : decode cX0_follow 38 = .ok (.invokevirtual 49, 3) := by decide +kernel
theorem dX0_follow_41 : decode cX0_follow 41 = .ok (.iinc 4 1, 3) := by decide +kernel
theorem dX0_follow_44 : decode cX0_follow 44 = .ok (.goto (-32), 3) := by decide +kernel
theorem dX0_follow_47 : decode cX0_follow 47 = .ok (.aload_n 0, 1) := by decide +kernel
theorem dX0_follow_48 : decode cX0_follow 48 = .ok (.getfield 21, 3) := by decide +kernel
theorem dX0_follow_51 : decode cX0_follow 51 = .ok (.areturn, 1) := by decide +kernel
theorem dX0_lossIn_0 : decode cX0_lossIn 0 = .ok (.aload_n 0, 1) := by decide +kernel
theorem dX0_lossIn_1 : decode cX0_lossIn 1 = .ok (.getfield 15, 3) := by decide +kernel
theorem dX0_lossIn_4 : decode cX0_lossIn 4 = .ok (.aload_n 0, 1) := by decide +kernel
theorem dX0_lossIn_5 : decode cX0_lossIn 5 = .ok (.getfield 9, 3) := by decide +kernel
theorem dX0_lossIn_8 : decode cX0_lossIn 8 = .ok (.invokevirtual 53, 3) := by decide +kernel
theorem dX0_lossIn_11 : decode cX0_lossIn 11 = .ok (.aload_n 0, 1) := by decide +kernel
theorem dX0_lossIn_12 : decode cX0_lossIn 12 = .ok (.getfield 15, 3) := by decide +kernel
theorem dX0_lossIn_15 : decode cX0_lossIn 15 = .ok (.iload_n 1, 1) := by decide +kernel
theorem dX0_lossIn_16 : decode cX0_lossIn 16 = .ok (.invokevirtual 59, 3) := by decide +kernel
theorem dX0_lossIn_19 : decode cX0_lossIn 19 = .ok (.ireturn, 1) := by decide +kernel
theorem dX0_bestMove_0 : decode cX0_bestMove 0 = .ok (.iconst 0, 1) := by decide +kernel
theorem dX0_bestMove_1 : decode cX0_bestMove 1 = .ok (.istore_n 3, 1) := by decide +kernel
theorem dX0_bestMove_2 : decode cX0_bestMove 2 = .ok (.iconst 0, 1) := by decide +kernel
theorem dX0_bestMove_3 : decode cX0_bestMove 3 = .ok (.istore 4, 2) := by decide +kernel
theorem dX0_bestMove_5 : decode cX0_bestMove 5 = .ok (.iconst 0, 1) := by decide +kernel
theorem dX0_bestMove_6 : decode cX0_bestMove 6 = .ok (.istore 5, 2) := by decide +kernel
theorem dX0_bestMove_8 : decode cX0_bestMove 8 = .ok (.iload 5, 2) := by decide +kernel
theorem dX0_bestMove_10 : decode cX0_bestMove 10 = .ok (.aload_n 0, 1) := by decide +kernel
theorem dX0_bestMove_11 : decode cX0_bestMove 11 = .ok (.getfield 9, 3) := by decide +kernel
theorem dX0_bestMove_14 : decode cX0_bestMove 14 = .ok (.getfield 63, 3) := by decide +kernel
theorem dX0_bestMove_17 : decode cX0_bestMove 17 = .ok (.if_icmp .ge 59, 3) := by decide +kernel
theorem dX0_bestMove_20 : decode cX0_bestMove 20 = .ok (.aload_n 0, 1) := by decide +kernel
theorem dX0_bestMove_21 : decode cX0_bestMove 21 = .ok (.getfield 15, 3) := by decide +kernel
theorem dX0_bestMove_24 : decode cX0_bestMove 24 = .ok (.aload_n 0, 1) := by decide +kernel
theorem dX0_bestMove_25 : decode cX0_bestMove 25 = .ok (.getfield 9, 3) := by decide +kernel
theorem dX0_bestMove_28 : decode cX0_bestMove 28 = .ok (.invokevirtual 53, 3) := by decide +kernel
theorem dX0_bestMove_31 : decode cX0_bestMove 31 = .ok (.aload_n 0, 1) := by decide +kernel
theorem dX0_bestMove_32 : decode cX0_bestMove 32 = .ok (.getfield 15, 3) := by decide +kernel
theorem dX0_bestMove_35 : decode cX0_bestMove 35 = .ok (.iload_n 1, 1) := by decide +kernel
theorem dX0_bestMove_36 : decode cX0_bestMove 36 = .ok (.iload 5, 2) := by decide +kernel
theorem dX0_bestMove_38 : decode cX0_bestMove 38 = .ok (.invokevirtual 67, 3) := by decide +kernel
theorem dX0_bestMove_41 : decode cX0_bestMove 41 = .ok (.aload_n 0, 1) := by decide +kernel
theorem dX0_bestMove_42 : decode cX0_bestMove 42 = .ok (.getfield 15, 3) := by decide +kernel
theorem dX0_bestMove_45 : decode cX0_bestMove 45 = .ok (.iload_n 2, 1) := by decide +kernel
theorem dX0_bestMove_46 : decode cX0_bestMove 46 = .ok (.invokevirtual 59, 3) := by decide +kernel
theorem dX0_bestMove_49 : decode cX0_bestMove 49 = .ok (.istore 6, 2) := by decide +kernel
theorem dX0_bestMove_51 : decode cX0_bestMove 51 = .ok (.iload 5, 2) := by decide +kernel
theorem dX0_bestMove_53 : decode cX0_bestMove 53 = .ok (.ifCond .eq 10, 3) := by decide +kernel
theorem dX0_bestMove_56 : decode cX0_bestMove 56 = .ok (.iload 6, 2) := by decide +kernel
theorem dX0_bestMove_58 : decode cX0_bestMove 58 = .ok (.iload 4, 2) := by decide +kernel
theorem dX0_bestMove_60 : decode cX0_bestMove 60 = .ok (.if_icmp .ge 10, 3) := by decide +kernel
theorem dX0_bestMove_63 : decode cX0_bestMove 63 = .ok (.iload 6, 2) := by decide +kernel
theorem dX0_bestMove_65 : decode cX0_bestMove 65 = .ok (.istore 4, 2) := by decide +kernel
theorem dX0_bestMove_67 : decode cX0_bestMove 67 = .ok (.iload 5, 2) := by decide +kernel
theorem dX0_bestMove_69 : decode cX0_bestMove 69 = .ok (.istore_n 3, 1) := by decide +kernel
theorem dX0_bestMove_70 : decode cX0_bestMove 70 = .ok (.iinc 5 1, 3) := by decide +kernel
theorem dX0_bestMove_73 : decode cX0_bestMove 73 = .ok (.goto (-65), 3) := by decide +kernel
theorem dX0_bestMove_76 : decode cX0_bestMove 76 = .ok (.iload_n 3, 1) := by decide +kernel
theorem dX0_bestMove_77 : decode cX0_bestMove 77 = .ok (.ireturn, 1) := by decide +kernel
theorem dX0_fewestPushes_0 : decode cX0_fewestPushes 0 = .ok (.aload_n 0, 1) := by decide +kernel
theorem dX0_fewestPushes_1 : decode cX0_fewestPushes 1 = .ok (.getfield 29, 3) := by decide +kernel
theorem dX0_fewestPushes_4 : decode cX0_fewestPushes 4 = .ok (.iconst 0, 1) := by decide +kernel
theorem dX0_fewestPushes_5 : decode cX0_fewestPushes 5 = .ok (.invokestatic 70, 3) := by decide +kernel
theorem dX0_fewestPushes_8 : decode cX0_fewestPushes 8 = .ok (.iload_n 1, 1) := by decide +kernel
theorem dX0_fewestPushes_9 : decode cX0_fewestPushes 9 = .ok (.istore_n 2, 1) := by decide +kernel
theorem dX0_fewestPushes_10 : decode cX0_fewestPushes 10 = .ok (.iload_n 2, 1) := by decide +kernel
theorem dX0_fewestPushes_11 : decode cX0_fewestPushes 11 = .ok (.iconst 1, 1) := by decide +kernel
theorem dX0_fewestPushes_12 : decode cX0_fewestPushes 12 = .ok (.if_icmp .lt 18, 3) := by decide +kernel
theorem dX0_fewestPushes_15 : decode cX0_fewestPushes 15 = .ok (.aload_n 0, 1) := by decide +kernel
theorem dX0_fewestPushes_16 : decode cX0_fewestPushes 16 = .ok (.iload_n 2, 1) := by decide +kernel
theorem dX0_fewestPushes_17 : decode cX0_fewestPushes 17 = .ok (.invokevirtual 76, 3) := by decide +kernel
theorem dX0_fewestPushes_20 : decode cX0_fewestPushes 20 = .ok (.aload_n 0, 1) := by decide +kernel
theorem dX0_fewestPushes_21 : decode cX0_fewestPushes 21 = .ok (.invokevirtual 80, 3) := by decide +kernel
theorem dX0_fewestPushes_24 : decode cX0_fewestPushes 24 = .ok (.iinc 2 (-1), 3) := by decide +kernel
theorem dX0_fewestPushes_27 : decode cX0_fewestPushes 27 = .ok (.goto (-17), 3) := by decide +kernel
theorem dX0_fewestPushes_30 : decode cX0_fewestPushes 30 = .ok (.iconst 0, 1) := by decide +kernel
theorem dX0_fewestPushes_31 : decode cX0_fewestPushes 31 = .ok (.istore_n 2, 1) := by decide +kernel
theorem dX0_fewestPushes_32 : decode cX0_fewestPushes 32 = .ok (.iconst 0, 1) := by decide +kernel
theorem dX0_fewestPushes_33 : decode cX0_fewestPushes 33 = .ok (.istore_n 3, 1) := by decide +kernel
theorem dX0_fewestPushes_34 : decode cX0_fewestPushes 34 = .ok (.iload_n 3, 1) := by decide +kernel
theorem dX0_fewestPushes_35 : decode cX0_fewestPushes 35 = .ok (.iconst 5, 1) := by decide +kernel
theorem dX0_fewestPushes_36 : decode cX0_fewestPushes 36 = .ok (.if_icmp .ge 78, 3) := by decide +kernel
theorem dX0_fewestPushes_39 : decode cX0_fewestPushes 39 = .ok (.iconst 0, 1) := by decide +kernel
theorem dX0_fewestPushes_40 : decode cX0_fewestPushes 40 = .ok (.istore 4, 2) := by decide +kernel
theorem dX0_fewestPushes_42 : decode cX0_fewestPushes 42 = .ok (.iload 4, 2) := by decide +kernel
theorem dX0_fewestPushes_44 : decode cX0_fewestPushes 44 = .ok (.aload_n 0, 1) := by decide +kernel
theorem dX0_fewestPushes_45 : decode cX0_fewestPushes 45 = .ok (.getfield 9, 3) := by decide +kernel
theorem dX0_fewestPushes_48 : decode cX0_fewestPushes 48 = .ok (.getfield 63, 3) := by decide +kernel
theorem dX0_fewestPushes_51 : decode cX0_fewestPushes 51 = .ok (.if_icmp .ge 57, 3) := by decide +kernel
theorem dX0_fewestPushes_54 : decode cX0_fewestPushes 54 = .ok (.aload_n 0, 1) := by decide +kernel
theorem dX0_fewestPushes_55 : decode cX0_fewestPushes 55 = .ok (.getfield 9, 3) := by decide +kernel
theorem dX0_fewestPushes_58 : decode cX0_fewestPushes 58 = .ok (.iload_n 3, 1) := by decide +kernel
theorem dX0_fewestPushes_59 : decode cX0_fewestPushes 59 = .ok (.iload 4, 2) := by decide +kernel
theorem dX0_fewestPushes_61 : decode cX0_fewestPushes 61 = .ok (.invokevirtual 83, 3) := by decide +kernel
theorem dX0_fewestPushes_64 : decode cX0_fewestPushes 64 = .ok (.istore 5, 2) := by decide +kernel
theorem dX0_fewestPushes_66 : decode cX0_fewestPushes 66 = .ok (.aload_n 0, 1) := by decide +kernel
theorem dX0_fewestPushes_67 : decode cX0_fewestPushes 67 = .ok (.getfield 29, 3) := by decide +kernel
theorem dX0_fewestPushes_70 : decode cX0_fewestPushes 70 = .ok (.iload_n 3, 1) := by decide +kernel
theorem dX0_fewestPushes_71 : decode cX0_fewestPushes 71 = .ok (.iload 4, 2) := by decide +kernel
theorem dX0_fewestPushes_73 : decode cX0_fewestPushes 73 = .ok (.invokestatic 87, 3) := by decide +kernel
theorem dX0_fewestPushes_76 : decode cX0_fewestPushes 76 = .ok (.iaload, 1) := by decide +kernel
theorem dX0_fewestPushes_77 : decode cX0_fewestPushes 77 = .ok (.istore 6, 2) := by decide +kernel
theorem dX0_fewestPushes_79 : decode cX0_fewestPushes 79 = .ok (.iload 5, 2) := by decide +kernel
theorem dX0_fewestPushes_81 : decode cX0_fewestPushes 81 = .ok (.ifCond .le 13, 3) := by decide +kernel
theorem dX0_fewestPushes_84 : decode cX0_fewestPushes 84 = .ok (.iload 6, 2) := by decide +kernel
theorem dX0_fewestPushes_86 : decode cX0_fewestPushes 86 = .ok (.sipush 1000, 3) := by decide +kernel
theorem dX0_fewestPushes_89 : decode cX0_fewestPushes 89 = .ok (.if_icmp .lt 5, 3) := by decide +kernel
theorem dX0_fewestPushes_92 : decode cX0_fewestPushes 92 = .ok (.iconst (-1), 1) := by decide +kernel
theorem dX0_fewestPushes_93 : decode cX0_fewestPushes 93 = .ok (.ireturn, 1) := by decide +kernel
theorem dX0_fewestPushes_94 : decode cX0_fewestPushes 94 = .ok (.iload_n 2, 1) := by decide +kernel
theorem dX0_fewestPushes_95 : decode cX0_fewestPushes 95 = .ok (.iload 5, 2) := by decide +kernel
theorem dX0_fewestPushes_97 : decode cX0_fewestPushes 97 = .ok (.iload 6, 2) := by decide +kernel
theorem dX0_fewestPushes_99 : decode cX0_fewestPushes 99 = .ok (.imul, 1) := by decide +kernel
theorem dX0_fewestPushes_100 : decode cX0_fewestPushes 100 = .ok (.iadd, 1) := by decide +kernel
theorem dX0_fewestPushes_101 : decode cX0_fewestPushes 101 = .ok (.istore_n 2, 1) := by decide +kernel
theorem dX0_fewestPushes_102 : decode cX0_fewestPushes 102 = .ok (.iinc 4 1, 3) := by decide +kernel
theorem dX0_fewestPushes_105 : decode cX0_fewestPushes 105 = .ok (.goto (-63), 3) := by decide +kernel
theorem dX0_fewestPushes_108 : decode cX0_fewestPushes 108 = .ok (.iinc 3 1, 3) := by decide +kernel
theorem dX0_fewestPushes_111 : decode cX0_fewestPushes 111 = .ok (.goto (-77), 3) := by decide +kernel
theorem dX0_fewestPushes_114 : decode cX0_fewestPushes 114 = .ok (.iload_n 2, 1) := by decide +kernel
theorem dX0_fewestPushes_115 : decode cX0_fewestPushes 115 = .ok (.ireturn, 1) := by decide +kernel
theorem dX0_leaveInRound_0 : decode cX0_leaveInRound 0 = .ok (.iconst 0, 1) := by decide +kernel
theorem dX0_leaveInRound_1 : decode cX0_leaveInRound 1 = .ok (.istore_n 2, 1) := by decide +kernel
theorem dX0_leaveInRound_2 : decode cX0_leaveInRound 2 = .ok (.iload_n 2, 1) := by decide +kernel
theorem dX0_leaveInRound_3 : decode cX0_leaveInRound 3 = .ok (.iconst 5, 1) := by decide +kernel
theorem dX0_leaveInRound_4 : decode cX0_leaveInRound 4 = .ok (.if_icmp .ge 97, 3) := by decide +kernel
theorem dX0_leaveInRound_7 : decode cX0_leaveInRound 7 = .ok (.iconst 0, 1) := by decide +kernel
theorem dX0_leaveInRound_8 : decode cX0_leaveInRound 8 = .ok (.istore_n 3, 1) := by decide +kernel
theorem dX0_leaveInRound_9 : decode cX0_leaveInRound 9 = .ok (.iload_n 3, 1) := by decide +kernel
theorem dX0_leaveInRound_10 : decode cX0_leaveInRound 10 = .ok (.aload_n 0, 1) := by decide +kernel
theorem dX0_leaveInRound_11 : decode cX0_leaveInRound 11 = .ok (.getfield 9, 3) := by decide +kernel
theorem dX0_leaveInRound_14 : decode cX0_leaveInRound 14 = .ok (.getfield 63, 3) := by decide +kernel
theorem dX0_leaveInRound_17 : decode cX0_leaveInRound 17 = .ok (.if_icmp .ge 78, 3) := by decide +kernel
theorem dX0_leaveInRound_20 : decode cX0_leaveInRound 20 = .ok (.aload_n 0, 1) := by decide +kernel
theorem dX0_leaveInRound_21 : decode cX0_leaveInRound 21 = .ok (.getfield 21, 3) := by decide +kernel
theorem dX0_leaveInRound_24 : decode cX0_leaveInRound 24 = .ok (.iload_n 2, 1) := by decide +kernel
theorem dX0_leaveInRound_25 : decode cX0_leaveInRound 25 = .ok (.iload_n 3, 1) := by decide +kernel
theorem dX0_leaveInRound_26 : decode cX0_leaveInRound 26 = .ok (.invokevirtual 41, 3) := by decide +kernel
theorem dX0_leaveInRound_29 : decode cX0_leaveInRound 29 = .ok (.aload_n 0, 1) := by decide +kernel
theorem dX0_leaveInRound_30 : decode cX0_leaveInRound 30 = .ok (.getfield 21, 3) := by decide +kernel
theorem dX0_leaveInRound_33 : decode cX0_leaveInRound 33 = .ok (.aload_n 0, 1) := by decide +kernel
theorem dX0_leaveInRound_34 : decode cX0_leaveInRound 34 = .ok (.getfield 9, 3) := by decide +kernel
theorem dX0_leaveInRound_37 : decode cX0_leaveInRound 37 = .ok (.iload_n 1, 1) := by decide +kernel
theorem dX0_leaveInRound_38 : decode cX0_leaveInRound 38 = .ok (.invokevirtual 49, 3) := by decide +kernel
theorem dX0_leaveInRound_41 : decode cX0_leaveInRound 41 = .ok (.aload_n 0, 1) := by decide +kernel
theorem dX0_leaveInRound_42 : decode cX0_leaveInRound 42 = .ok (.getfield 32, 3) := by decide +kernel
theorem dX0_leaveInRound_45 : decode cX0_leaveInRound 45 = .ok (.iload_n 2, 1) := by decide +kernel
theorem dX0_leaveInRound_46 : decode cX0_leaveInRound 46 = .ok (.iload_n 3, 1) := by decide +kernel
theorem dX0_leaveInRound_47 : decode cX0_leaveInRound 47 = .ok (.invokestatic 87, 3) := by decide +kernel
theorem dX0_leaveInRound_50 : decode cX0_leaveInRound 50 = .ok (.aload_n 0, 1) := by decide +kernel
theorem dX0_leaveInRound_51 : decode cX0_leaveInRound 51 = .ok (.getfield 21, 3) := by decide +kernel
theorem dX0_leaveInRound_54 : decode cX0_leaveInRound 54 = .ok (.invokevirtual 45, 3) := by decide +kernel
theorem dX0_leaveInRound_57 : decode cX0_leaveInRound 57 = .ok (.ifCond .eq 9, 3) := by decide +kernel
theorem dX0_leaveInRound_60 : decode cX0_leaveInRound 60 = .ok (.sipush 1000, 3) := by decide +kernel
theorem dX0_leaveInRound_63 : decode cX0_leaveInRound 63 = .ok (.goto 25, 3) := by decide +kernel
theorem dX0_leaveInRound_66 : decode cX0_leaveInRound 66 = .ok (.aload_n 0, 1) := by decide +kernel
theorem dX0_leaveInRound_67 : decode cX0_leaveInRound 67 = .ok (.getfield 29, 3) := by decide +kernel
theorem dX0_leaveInRound_70 : decode cX0_leaveInRound 70 = .ok (.aload_n 0, 1) := by decide +kernel
theorem dX0_leaveInRound_71 : decode cX0_leaveInRound 71 = .ok (.getfield 21, 3) := by decide +kernel
theorem dX0_leaveInRound_74 : decode cX0_leaveInRound 74 = .ok (.getfield 90, 3) := by decide +kernel
theorem dX0_leaveInRound_77 : decode cX0_leaveInRound 77 = .ok (.aload_n 0, 1) := by decide +kernel
theorem dX0_leaveInRound_78 : decode cX0_leaveInRound 78 = .ok (.getfield 21, 3) := by decide +kernel
theorem dX0_leaveInRound_81 : decode cX0_leaveInRound 81 = .ok (.getfield 93, 3) := by decide +kernel
theorem dX0_leaveInRound_84 : decode cX0_leaveInRound 84 = .ok (.invokestatic 87, 3) := by decide +kernel
theorem dX0_leaveInRound_87 : decode cX0_leaveInRound 87 = .ok (.iaload, 1) := by decide +kernel
theorem dX0_leaveInRound_88 : decode cX0_leaveInRound 88 = .ok (.iastore, 1) := by decide +kernel
theorem dX0_leaveInRound_89 : decode cX0_leaveInRound 89 = .ok (.iinc 3 1, 3) := by decide +kernel
theorem dX0_leaveInRound_92 : decode cX0_leaveInRound 92 = .ok (.goto (-83), 3) := by decide +kernel
theorem dX0_leaveInRound_95 : decode cX0_leaveInRound 95 = .ok (.iinc 2 1, 3) := by decide +kernel
theorem dX0_leaveInRound_98 : decode cX0_leaveInRound 98 = .ok (.goto (-96), 3) := by decide +kernel
theorem dX0_leaveInRound_101 : decode cX0_leaveInRound 101 = .ok (.return_, 1) := by decide +kernel
theorem dX0_pushAheadOfRound_0 : decode cX0_pushAheadOfRound 0 = .ok (.iconst 0, 1) := by decide +kernel
theorem dX0_pushAheadOfRound_1 : decode cX0_pushAheadOfRound 1 = .ok (.istore_n 1, 1) := by decide +kernel
theorem dX0_pushAheadOfRound_2 : decode cX0_pushAheadOfRound 2 = .ok (.iload_n 1, 1) := by decide +kernel
theorem dX0_pushAheadOfRound_3 : decode cX0_pushAheadOfRound 3 = .ok (.iconst 5, 1) := by decide +kernel
theorem dX0_pushAheadOfRound_4 : decode cX0_pushAheadOfRound 4 = .ok (.if_icmp .ge 70, 3) := by decide +kernel
theorem dX0_pushAheadOfRound_7 : decode cX0_pushAheadOfRound 7 = .ok (.iconst 0, 1) := by decide +kernel
theorem dX0_pushAheadOfRound_8 : decode cX0_pushAheadOfRound 8 = .ok (.istore_n 2, 1) := by decide +kernel
theorem dX0_pushAheadOfRound_9 : decode cX0_pushAheadOfRound 9 = .ok (.iload_n 2, 1) := by decide +kernel
theorem dX0_pushAheadOfRound_10 : decode cX0_pushAheadOfRound 10 = .ok (.aload_n 0, 1) := by decide +kernel
theorem dX0_pushAheadOfRound_11 : decode cX0_pushAheadOfRound 11 = .ok (.getfield 9, 3) := by decide +kernel
theorem dX0_pushAheadOfRound_14 : decode cX0_pushAheadOfRound 14 = .ok (.getfield 63, 3) := by decide +kernel
theorem dX0_pushAheadOfRound_17 : decode cX0_pushAheadOfRound 17 = .ok (.if_icmp .ge 51, 3) := by decide +kernel
theorem dX0_pushAheadOfRound_20 : decode cX0_pushAheadOfRound 20 = .ok (.iconst 1, 1) := by decide +kernel
theorem dX0_pushAheadOfRound_21 : decode cX0_pushAheadOfRound 21 = .ok (.aload_n 0, 1) := by decide +kernel
theorem dX0_pushAheadOfRound_22 : decode cX0_pushAheadOfRound 22 = .ok (.iload_n 1, 1) := by decide +kernel
theorem dX0_pushAheadOfRound_23 : decode cX0_pushAheadOfRound 23 = .ok (.iconst 1, 1) := by decide +kernel
theorem dX0_pushAheadOfRound_24 : decode cX0_pushAheadOfRound 24 = .ok (.isub, 1) := by decide +kernel
theorem dX0_pushAheadOfRound_25 : decode cX0_pushAheadOfRound 25 = .ok (.iload_n 2, 1) := by decide +kernel
theorem dX0_pushAheadOfRound_26 : decode cX0_pushAheadOfRound 26 = .ok (.invokevirtual 96, 3) := by decide +kernel
theorem dX0_pushAheadOfRound_29 : decode cX0_pushAheadOfRound 29 = .ok (.aload_n 0, 1) := by decide +kernel
theorem dX0_pushAheadOfRound_30 : decode cX0_pushAheadOfRound 30 = .ok (.iload_n 1, 1) := by decide +kernel
theorem dX0_pushAheadOfRound_31 : decode cX0_pushAheadOfRound 31 = .ok (.iconst 1, 1) := by decide +kernel
theorem dX0_pushAheadOfRound_32 : decode cX0_pushAheadOfRound 32 = .ok (.iadd, 1) := by decide +kernel
theorem dX0_pushAheadOfRound_33 : decode cX0_pushAheadOfRound 33 = .ok (.iload_n 2, 1) := by decide +kernel
theorem dX0_pushAheadOfRound_34 : decode cX0_pushAheadOfRound 34 = .ok (.invokevirtual 96, 3) := by decide +kernel
theorem dX0_pushAheadOfRound_37 : decode cX0_pushAheadOfRound 37 = .ok (.invokestatic 99, 3) := by decide +kernel
theorem dX0_pushAheadOfRound_40 : decode cX0_pushAheadOfRound 40 = .ok (.iadd, 1) := by decide +kernel
theorem dX0_pushAheadOfRound_41 : decode cX0_pushAheadOfRound 41 = .ok (.istore_n 3, 1) := by decide +kernel
theorem dX0_pushAheadOfRound_42 : decode cX0_pushAheadOfRound 42 = .ok (.aload_n 0, 1) := by decide +kernel
theorem dX0_pushAheadOfRound_43 : decode cX0_pushAheadOfRound 43 = .ok (.getfield 29, 3) := by decide +kernel
theorem dX0_pushAheadOfRound_46 : decode cX0_pushAheadOfRound 46 = .ok (.iload_n 1, 1) := by decide +kernel
theorem dX0_pushAheadOfRound_47 : decode cX0_pushAheadOfRound 47 = .ok (.iload_n 2, 1) := by decide +kernel
theorem dX0_pushAheadOfRound_48 : decode cX0_pushAheadOfRound 48 = .ok (.invokestatic 87, 3) := by decide +kernel
theorem dX0_pushAheadOfRound_51 : decode cX0_pushAheadOfRound 51 = .ok (.aload_n 0, 1) := by decide +kernel
theorem dX0_pushAheadOfRound_52 : decode cX0_pushAheadOfRound 52 = .ok (.iload_n 1, 1) := by decide +kernel
theorem dX0_pushAheadOfRound_53 : decode cX0_pushAheadOfRound 53 = .ok (.iload_n 2, 1) := by decide +kernel
theorem dX0_pushAheadOfRound_54 : decode cX0_pushAheadOfRound 54 = .ok (.invokevirtual 96, 3) := by decide +kernel
theorem dX0_pushAheadOfRound_57 : decode cX0_pushAheadOfRound 57 = .ok (.iload_n 3, 1) := by decide +kernel
theorem dX0_pushAheadOfRound_58 : decode cX0_pushAheadOfRound 58 = .ok (.invokestatic 99, 3) := by decide +kernel
theorem dX0_pushAheadOfRound_61 : decode cX0_pushAheadOfRound 61 = .ok (.iastore, 1) := by decide +kernel
theorem dX0_pushAheadOfRound_62 : decode cX0_pushAheadOfRound 62 = .ok (.iinc 2 1, 3) := by decide +kernel
theorem dX0_pushAheadOfRound_65 : decode cX0_pushAheadOfRound 65 = .ok (.goto (-56), 3) := by decide +kernel
theorem dX0_pushAheadOfRound_68 : decode cX0_pushAheadOfRound 68 = .ok (.iinc 1 1, 3) := by decide +kernel
theorem dX0_pushAheadOfRound_71 : decode cX0_pushAheadOfRound 71 = .ok (.goto (-69), 3) := by decide +kernel
theorem dX0_pushAheadOfRound_74 : decode cX0_pushAheadOfRound 74 = .ok (.return_, 1) := by decide +kernel
theorem dX0_costIfLeft_0 : decode cX0_costIfLeft 0 = .ok (.iload_n 1, 1) := by decide +kernel
theorem dX0_costIfLeft_1 : decode cX0_costIfLeft 1 = .ok (.invokestatic 104, 3) := by decide +kernel
theorem dX0_costIfLeft_4 : decode cX0_costIfLeft 4 = .ok (.ifCond .eq 16, 3) := by decide +kernel
theorem dX0_costIfLeft_7 : decode cX0_costIfLeft 7 = .ok (.aload_n 0, 1) := by decide +kernel
theorem dX0_costIfLeft_8 : decode cX0_costIfLeft 8 = .ok (.getfield 32, 3) := by decide +kernel
theorem dX0_costIfLeft_11 : decode cX0_costIfLeft 11 = .ok (.iload_n 1, 1) := by decide +kernel
theorem dX0_costIfLeft_12 : decode cX0_costIfLeft 12 = .ok (.iload_n 2, 1) := by decide +kernel
theorem dX0_costIfLeft_13 : decode cX0_costIfLeft 13 = .ok (.invokestatic 87, 3) := by decide +kernel
theorem dX0_costIfLeft_16 : decode cX0_costIfLeft 16 = .ok (.iaload, 1) := by decide +kernel
theorem dX0_costIfLeft_17 : decode cX0_costIfLeft 17 = .ok (.goto 6, 3) := by decide +kernel
theorem dX0_costIfLeft_20 : decode cX0_costIfLeft 20 = .ok (.sipush 1000, 3) := by decide +kernel
theorem dX0_costIfLeft_23 : decode cX0_costIfLeft 23 = .ok (.ireturn, 1) := by decide +kernel
theorem dX0_cell_0 : decode cX0_cell 0 = .ok (.iload_n 0, 1) := by decide +kernel
theorem dX0_cell_1 : decode cX0_cell 1 = .ok (.bipush 24, 2) := by decide +kernel
theorem dX0_cell_3 : decode cX0_cell 3 = .ok (.imul, 1) := by decide +kernel
theorem dX0_cell_4 : decode cX0_cell 4 = .ok (.iload_n 1, 1) := by decide +kernel
theorem dX0_cell_5 : decode cX0_cell 5 = .ok (.iadd, 1) := by decide +kernel
theorem dX0_cell_6 : decode cX0_cell 6 = .ok (.ireturn, 1) := by decide +kernel
theorem dX0_roadOpens_0 : decode cX0_roadOpens 0 = .ok (.aload_n 0, 1) := by decide +kernel
theorem dX0_roadOpens_1 : decode cX0_roadOpens 1 = .ok (.getfield 15, 3) := by decide +kernel
theorem dX0_roadOpens_4 : decode cX0_roadOpens 4 = .ok (.aload_n 0, 1) := by decide +kernel
theorem dX0_roadOpens_5 : decode cX0_roadOpens 5 = .ok (.getfield 9, 3) := by decide +kernel
theorem dX0_roadOpens_8 : decode cX0_roadOpens 8 = .ok (.invokevirtual 53, 3) := by decide +kernel
theorem dX0_roadOpens_11 : decode cX0_roadOpens 11 = .ok (.iconst 0, 1) := by decide +kernel
theorem dX0_roadOpens_12 : decode cX0_roadOpens 12 = .ok (.istore_n 3, 1) := by decide +kernel
theorem dX0_roadOpens_13 : decode cX0_roadOpens 13 = .ok (.iload_n 3, 1) := by decide +kernel
theorem dX0_roadOpens_14 : decode cX0_roadOpens 14 = .ok (.iload_n 2, 1) := by decide +kernel
theorem dX0_roadOpens_15 : decode cX0_roadOpens 15 = .ok (.if_icmp .gt 30, 3) := by decide +kernel
theorem dX0_roadOpens_18 : decode cX0_roadOpens 18 = .ok (.aload_n 0, 1) := by decide +kernel
theorem dX0_roadOpens_19 : decode cX0_roadOpens 19 = .ok (.getfield 15, 3) := by decide +kernel
theorem dX0_roadOpens_22 : decode cX0_roadOpens 22 = .ok (.iload_n 1, 1) := by decide +kernel
theorem dX0_roadOpens_23 : decode cX0_roadOpens 23 = .ok (.invokevirtual 108, 3) := by decide +kernel
theorem dX0_roadOpens_26 : decode cX0_roadOpens 26 = .ok (.ifCond .eq 5, 3) := by decide +kernel
theorem dX0_roadOpens_29 : decode cX0_roadOpens 29 = .ok (.iload_n 3, 1) := by decide +kernel
theorem dX0_roadOpens_30 : decode cX0_roadOpens 30 = .ok (.ireturn, 1) := by decide +kernel
theorem dX0_roadOpens_31 : decode cX0_roadOpens 31 = .ok (.aload_n 0, 1) := by decide +kernel
theorem dX0_roadOpens_32 : decode cX0_roadOpens 32 = .ok (.getfield 15, 3) := by decide +kernel
theorem dX0_roadOpens_35 : decode cX0_roadOpens 35 = .ok (.invokevirtual 111, 3) := by decide +kernel
theorem dX0_roadOpens_38 : decode cX0_roadOpens 38 = .ok (.pop, 1) := by decide +kernel
theorem dX0_roadOpens_39 : decode cX0_roadOpens 39 = .ok (.iinc 3 1, 3) := by decide +kernel
theorem dX0_roadOpens_42 : decode cX0_roadOpens 42 = .ok (.goto (-29), 3) := by decide +kernel
theorem dX0_roadOpens_45 : decode cX0_roadOpens 45 = .ok (.iconst (-1), 1) := by decide +kernel
theorem dX0_roadOpens_46 : decode cX0_roadOpens 46 = .ok (.ireturn, 1) := by decide +kernel
theorem dX0_roadLasts_0 : decode cX0_roadLasts 0 = .ok (.iload_n 3, 1) := by decide +kernel
theorem dX0_roadLasts_1 : decode cX0_roadLasts 1 = .ok (.istore 4, 2) := by decide +kernel
theorem dX0_roadLasts_3 : decode cX0_roadLasts 3 = .ok (.iload 4, 2) := by decide +kernel
theorem dX0_roadLasts_5 : decode cX0_roadLasts 5 = .ok (.iload_n 2, 1) := by decide +kernel
theorem dX0_roadLasts_6 : decode cX0_roadLasts 6 = .ok (.if_icmp .gt 28, 3) := by decide +kernel
theorem dX0_roadLasts_9 : decode cX0_roadLasts 9 = .ok (.aload_n 0, 1) := by decide +kernel
theorem dX0_roadLasts_10 : decode cX0_roadLasts 10 = .ok (.getfield 15, 3) := by decide +kernel
theorem dX0_roadLasts_13 : decode cX0_roadLasts 13 = .ok (.iload_n 1, 1) := by decide +kernel
theorem dX0_roadLasts_14 : decode cX0_roadLasts 14 = .ok (.invokevirtual 108, 3) := by decide +kernel
theorem dX0_roadLasts_17 : decode cX0_roadLasts 17 = .ok (.ifCond .eq 17, 3) := by decide +kernel
theorem dX0_roadLasts_20 : decode cX0_roadLasts 20 = .ok (.aload_n 0, 1) := by decide +kernel
theorem dX0_roadLasts_21 : decode cX0_roadLasts 21 = .ok (.getfield 15, 3) := by decide +kernel
theorem dX0_roadLasts_24 : decode cX0_roadLasts 24 = .ok (.invokevirtual 111, 3) := by decide +kernel
theorem dX0_roadLasts_27 : decode cX0_roadLasts 27 = .ok (.pop, 1) := by decide +kernel
theorem dX0_roadLasts_28 : decode cX0_roadLasts 28 = .ok (.iinc 4 1, 3) := by decide +kernel
theorem dX0_roadLasts_31 : decode cX0_roadLasts 31 = .ok (.goto (-28), 3) := by decide +kernel
theorem dX0_roadLasts_34 : decode cX0_roadLasts 34 = .ok (.iload 4, 2) := by decide +kernel
theorem dX0_roadLasts_36 : decode cX0_roadLasts 36 = .ok (.iload_n 3, 1) := by decide +kernel
theorem dX0_roadLasts_37 : decode cX0_roadLasts 37 = .ok (.isub, 1) := by decide +kernel
theorem dX0_roadLasts_38 : decode cX0_roadLasts 38 = .ok (.ireturn, 1) := by decide +kernel
theorem dX0_findTaken_0 : decode cX0_findTaken 0 = .ok (.aload_n 0, 1) := by decide +kernel
theorem dX0_findTaken_1 : decode cX0_findTaken 1 = .ok (.getfield 15, 3) := by decide +kernel
theorem dX0_findTaken_4 : decode cX0_findTaken 4 = .ok (.aload_n 0, 1) := by decide +kernel
theorem dX0_findTaken_5 : decode cX0_findTaken 5 = .ok (.getfield 9, 3) := by decide +kernel
theorem dX0_findTaken_8 : decode cX0_findTaken 8 = .ok (.invokevirtual 53, 3) := by decide +kernel
theorem dX0_findTaken_11 : decode cX0_findTaken 11 = .ok (.aload_n 0, 1) := by decide +kernel
theorem dX0_findTaken_12 : decode cX0_findTaken 12 = .ok (.getfield 15, 3) := by decide +kernel
theorem dX0_findTaken_15 : decode cX0_findTaken 15 = .ok (.iload_n 1, 1) := by decide +kernel
theorem dX0_findTaken_16 : decode cX0_findTaken 16 = .ok (.invokevirtual 59, 3) := by decide +kernel
theorem dX0_findTaken_19 : decode cX0_findTaken 19 = .ok (.pop, 1) := by decide +kernel
theorem dX0_findTaken_20 : decode cX0_findTaken 20 = .ok (.iconst 0, 1) := by decide +kernel
theorem dX0_findTaken_21 : decode cX0_findTaken 21 = .ok (.istore_n 2, 1) := by decide +kernel
theorem dX0_findTaken_22 : decode cX0_findTaken 22 = .ok (.iconst 0, 1) := by decide +kernel
theorem dX0_findTaken_23 : decode cX0_findTaken 23 = .ok (.istore_n 3, 1) := by decide +kernel
theorem dX0_findTaken_24 : decode cX0_findTaken 24 = .ok (.iload_n 3, 1) := by decide +kernel
theorem dX0_findTaken_25 : decode cX0_findTaken 25 = .ok (.iconst 5, 1) := by decide +kernel
theorem dX0_findTaken_26 : decode cX0_findTaken 26 = .ok (.if_icmp .ge 70, 3) := by decide +kernel
theorem dX0_findTaken_29 : decode cX0_findTaken 29 = .ok (.iconst 0, 1) := by decide +kernel
theorem dX0_findTaken_30 : decode cX0_findTaken 30 = .ok (.istore 4, 2) := by decide +kernel
theorem dX0_findTaken_32 : decode cX0_findTaken 32 = .ok (.iload 4, 2) := by decide +kernel
theorem dX0_findTaken_34 : decode cX0_findTaken 34 = .ok (.aload_n 0, 1) := by decide +kernel
theorem dX0_findTaken_35 : decode cX0_findTaken 35 = .ok (.getfield 9, 3) := by decide +kernel
theorem dX0_findTaken_38 : decode cX0_findTaken 38 = .ok (.getfield 63, 3) := by decide +kernel
theorem dX0_findTaken_41 : decode cX0_findTaken 41 = .ok (.if_icmp .ge 49, 3) := by decide +kernel
theorem dX0_findTaken_44 : decode cX0_findTaken 44 = .ok (.aload_n 0, 1) := by decide +kernel
theorem dX0_findTaken_45 : decode cX0_findTaken 45 = .ok (.getfield 9, 3) := by decide +kernel
theorem dX0_findTaken_48 : decode cX0_findTaken 48 = .ok (.iload_n 3, 1) := by decide +kernel
theorem dX0_findTaken_49 : decode cX0_findTaken 49 = .ok (.iload 4, 2) := by decide +kernel
theorem dX0_findTaken_51 : decode cX0_findTaken 51 = .ok (.invokevirtual 83, 3) := by decide +kernel
theorem dX0_findTaken_54 : decode cX0_findTaken 54 = .ok (.ifCond .le 30, 3) := by decide +kernel
theorem dX0_findTaken_57 : decode cX0_findTaken 57 = .ok (.aload_n 0, 1) := by decide +kernel
theorem dX0_findTaken_58 : decode cX0_findTaken 58 = .ok (.iload_n 3, 1) := by decide +kernel
theorem dX0_findTaken_59 : decode cX0_findTaken 59 = .ok (.iload 4, 2) := by decide +kernel
theorem dX0_findTaken_61 : decode cX0_findTaken 61 = .ok (.iload_n 1, 1) := by decide +kernel
theorem dX0_findTaken_62 : decode cX0_findTaken 62 = .ok (.invokevirtual 114, 3) := by decide +kernel
theorem dX0_findTaken_65 : decode cX0_findTaken 65 = .ok (.ifCond .eq 19, 3) := by decide +kernel
theorem dX0_findTaken_68 : decode cX0_findTaken 68 = .ok (.aload_n 0, 1) := by decide +kernel
theorem dX0_findTaken_69 : decode cX0_findTaken 69 = .ok (.getfield 35, 3) := by decide +kernel
theorem dX0_findTaken_72 : decode cX0_findTaken 72 = .ok (.iload_n 2, 1) := by decide +kernel
theorem dX0_findTaken_73 : decode cX0_findTaken 73 = .ok (.bipush 100, 2) := by decide +kernel
theorem dX0_findTaken_75 : decode cX0_findTaken 75 = .ok (.iload_n 3, 1) := by decide +kernel
theorem dX0_findTaken_76 : decode cX0_findTaken 76 = .ok (.imul, 1) := by decide +kernel
theorem dX0_findTaken_77 : decode cX0_findTaken 77 = .ok (.iload 4, 2) := by decide +kernel
theorem dX0_findTaken_79 : decode cX0_findTaken 79 = .ok (.iadd, 1) := by decide +kernel
theorem dX0_findTaken_80 : decode cX0_findTaken 80 = .ok (.iastore, 1) := by decide +kernel
theorem dX0_findTaken_81 : decode cX0_findTaken 81 = .ok (.iinc 2 1, 3) := by decide +kernel
theorem dX0_findTaken_84 : decode cX0_findTaken 84 = .ok (.iinc 4 1, 3) := by decide +kernel
theorem dX0_findTaken_87 : decode cX0_findTaken 87 = .ok (.goto (-55), 3) := by decide +kernel
theorem dX0_findTaken_90 : decode cX0_findTaken 90 = .ok (.iinc 3 1, 3) := by decide +kernel
theorem dX0_findTaken_93 : decode cX0_findTaken 93 = .ok (.goto (-69), 3) := by decide +kernel
theorem dX0_findTaken_96 : decode cX0_findTaken 96 = .ok (.iload_n 2, 1) := by decide +kernel
theorem dX0_findTaken_97 : decode cX0_findTaken 97 = .ok (.ireturn, 1) := by decide +kernel
theorem dX0_takenAt_0 : decode cX0_takenAt 0 = .ok (.aload_n 0, 1) := by decide +kernel
theorem dX0_takenAt_1 : decode cX0_takenAt 1 = .ok (.getfield 35, 3) := by decide +kernel
theorem dX0_takenAt_4 : decode cX0_takenAt 4 = .ok (.iload_n 1, 1) := by decide +kernel
theorem dX0_takenAt_5 : decode cX0_takenAt 5 = .ok (.iaload, 1) := by decide +kernel
theorem dX0_takenAt_6 : decode cX0_takenAt 6 = .ok (.ireturn, 1) := by decide +kernel
theorem dX0_fitsWithout_0 : decode cX0_fitsWithout 0 = .ok (.aload_n 0, 1) := by decide +kernel
theorem dX0_fitsWithout_1 : decode cX0_fitsWithout 1 = .ok (.iload_n 1, 1) := by decide +kernel
theorem dX0_fitsWithout_2 : decode cX0_fitsWithout 2 = .ok (.iload_n 2, 1) := by decide +kernel
theorem dX0_fitsWithout_3 : decode cX0_fitsWithout 3 = .ok (.iload_n 3, 1) := by decide +kernel
theorem dX0_fitsWithout_4 : decode cX0_fitsWithout 4 = .ok (.invokevirtual 118, 3) := by decide +kernel
theorem dX0_fitsWithout_7 : decode cX0_fitsWithout 7 = .ok (.getfield 90, 3) := by decide +kernel
theorem dX0_fitsWithout_10 : decode cX0_fitsWithout 10 = .ok (.istore 4, 2) := by decide +kernel
theorem dX0_fitsWithout_12 : decode cX0_fitsWithout 12 = .ok (.iconst 0, 1) := by decide +kernel
theorem dX0_fitsWithout_13 : decode cX0_fitsWithout 13 = .ok (.istore 5, 2) := by decide +kernel
theorem dX0_fitsWithout_15 : decode cX0_fitsWithout 15 = .ok (.iload 5, 2) := by decide +kernel
theorem dX0_fitsWithout_17 : decode cX0_fitsWithout 17 = .ok (.iconst 5, 1) := by decide +kernel
theorem dX0_fitsWithout_18 : decode cX0_fitsWithout 18 = .ok (.if_icmp .ge 58, 3) := by decide +kernel
theorem dX0_fitsWithout_21 : decode cX0_fitsWithout 21 = .ok (.iload 5, 2) := by decide +kernel
theorem dX0_fitsWithout_23 : decode cX0_fitsWithout 23 = .ok (.iload 4, 2) := by decide +kernel
theorem dX0_fitsWithout_25 : decode cX0_fitsWithout 25 = .ok (.if_icmp .ne 15, 3) := by decide +kernel
theorem dX0_fitsWithout_28 : decode cX0_fitsWithout 28 = .ok (.aload_n 0, 1) := by decide +kernel
theorem dX0_fitsWithout_29 : decode cX0_fitsWithout 29 = .ok (.getfield 9, 3) := by decide +kernel
theorem dX0_fitsWithout_32 : decode cX0_fitsWithout 32 = .ok (.iload_n 1, 1) := by decide +kernel
theorem dX0_fitsWithout_33 : decode cX0_fitsWithout 33 = .ok (.iload_n 2, 1) := by decide +kernel
theorem dX0_fitsWithout_34 : decode cX0_fitsWithout 34 = .ok (.invokevirtual 83, 3) := by decide +kernel
theorem dX0_fitsWithout_37 : decode cX0_fitsWithout 37 = .ok (.goto 4, 3) := by decide +kernel
theorem dX0_fitsWithout_40 : decode cX0_fitsWithout 40 = .ok (.iconst 0, 1) := by decide +kernel
theorem dX0_fitsWithout_41 : decode cX0_fitsWithout 41 = .ok (.istore 6, 2) := by decide +kernel
theorem dX0_fitsWithout_43 : decode cX0_fitsWithout 43 = .ok (.aload_n 0, 1) := by decide +kernel
theorem dX0_fitsWithout_44 : decode cX0_fitsWithout 44 = .ok (.getfield 15, 3) := by decide +kernel
theorem dX0_fitsWithout_47 : decode cX0_fitsWithout 47 = .ok (.iload 5, 2) := by decide +kernel
theorem dX0_fitsWithout_49 : decode cX0_fitsWithout 49 = .ok (.invokevirtual 122, 3) := by decide +kernel
theorem dX0_fitsWithout_52 : decode cX0_fitsWithout 52 = .ok (.iload 6, 2) := by decide +kernel
theorem dX0_fitsWithout_54 : decode cX0_fitsWithout 54 = .ok (.isub, 1) := by decide +kernel
theorem dX0_fitsWithout_55 : decode cX0_fitsWithout 55 = .ok (.aload_n 0, 1) := by decide +kernel
theorem dX0_fitsWithout_56 : decode cX0_fitsWithout 56 = .ok (.getfield 9, 3) := by decide +kernel
theorem dX0_fitsWithout_59 : decode cX0_fitsWithout 59 = .ok (.getfield 125, 3) := by decide +kernel
theorem dX0_fitsWithout_62 : decode cX0_fitsWithout 62 = .ok (.iload 5, 2) := by decide +kernel
theorem dX0_fitsWithout_64 : decode cX0_fitsWithout 64 = .ok (.iaload, 1) := by decide +kernel
theorem dX0_fitsWithout_65 : decode cX0_fitsWithout 65 = .ok (.if_icmp .eq 5, 3) := by decide +kernel
theorem dX0_fitsWithout_68 : decode cX0_fitsWithout 68 = .ok (.iconst 0, 1) := by decide +kernel
theorem dX0_fitsWithout_69 : decode cX0_fitsWithout 69 = .ok (.ireturn, 1) := by decide +kernel
theorem dX0_fitsWithout_70 : decode cX0_fitsWithout 70 = .ok (.iinc 5 1, 3) := by decide +kernel
theorem dX0_fitsWithout_73 : decode cX0_fitsWithout 73 = .ok (.goto (-58), 3) := by decide +kernel
theorem dX0_fitsWithout_76 : decode cX0_fitsWithout 76 = .ok (.iconst 1, 1) := by decide +kernel
theorem dX0_fitsWithout_77 : decode cX0_fitsWithout 77 = .ok (.ireturn, 1) := by decide +kernel
theorem dX0_farmerAhead_0 : decode cX0_farmerAhead 0 = .ok (.aload_n 0, 1) := by decide +kernel
theorem dX0_farmerAhead_1 : decode cX0_farmerAhead 1 = .ok (.invokevirtual 128, 3) := by decide +kernel
theorem dX0_farmerAhead_4 : decode cX0_farmerAhead 4 = .ok (.aload_n 0, 1) := by decide +kernel
theorem dX0_farmerAhead_5 : decode cX0_farmerAhead 5 = .ok (.getfield 25, 3) := by decide +kernel
theorem dX0_farmerAhead_8 : decode cX0_farmerAhead 8 = .ok (.iconst 0, 1) := by decide +kernel
theorem dX0_farmerAhead_9 : decode cX0_farmerAhead 9 = .ok (.iload_n 1, 1) := by decide +kernel
theorem dX0_farmerAhead_10 : decode cX0_farmerAhead 10 = .ok (.invokestatic 131, 3) := by decide +kernel
theorem dX0_farmerAhead_13 : decode cX0_farmerAhead 13 = .ok (.ireturn, 1) := by decide +kernel
theorem dX0_firstTaken_0 : decode cX0_firstTaken 0 = .ok (.aload_n 0, 1) := by decide +kernel
theorem dX0_firstTaken_1 : decode cX0_firstTaken 1 = .ok (.iload_n 1, 1) := by decide +kernel
theorem dX0_firstTaken_2 : decode cX0_firstTaken 2 = .ok (.invokevirtual 135, 3) := by decide +kernel
theorem dX0_firstTaken_5 : decode cX0_firstTaken 5 = .ok (.istore_n 2, 1) := by decide +kernel
theorem dX0_firstTaken_6 : decode cX0_firstTaken 6 = .ok (.iconst 0, 1) := by decide +kernel
theorem dX0_firstTaken_7 : decode cX0_firstTaken 7 = .ok (.istore_n 3, 1) := by decide +kernel
theorem dX0_firstTaken_8 : decode cX0_firstTaken 8 = .ok (.iload_n 3, 1) := by decide +kernel
theorem dX0_firstTaken_9 : decode cX0_firstTaken 9 = .ok (.iconst 5, 1) := by decide +kernel
theorem dX0_firstTaken_10 : decode cX0_firstTaken 10 = .ok (.if_icmp .ge 44, 3) := by decide +kernel
theorem dX0_firstTaken_13 : decode cX0_firstTaken 13 = .ok (.aload_n 0, 1) := by decide +kernel
theorem dX0_firstTaken_14 : decode cX0_firstTaken 14 = .ok (.getfield 25, 3) := by decide +kernel
theorem dX0_firstTaken_17 : decode cX0_firstTaken 17 = .ok (.iload_n 3, 1) := by decide +kernel
theorem dX0_firstTaken_18 : decode cX0_firstTaken 18 = .ok (.iaload, 1) := by decide +kernel
theorem dX0_firstTaken_19 : decode cX0_firstTaken 19 = .ok (.ifCond .le 29, 3) := by decide +kernel
theorem dX0_firstTaken_22 : decode cX0_firstTaken 22 = .ok (.aload_n 0, 1) := by decide +kernel
theorem dX0_firstTaken_23 : decode cX0_firstTaken 23 = .ok (.getfield 25, 3) := by decide +kernel
theorem dX0_firstTaken_26 : decode cX0_firstTaken 26 = .ok (.iload_n 3, 1) := by decide +kernel
theorem dX0_firstTaken_27 : decode cX0_firstTaken 27 = .ok (.iaload, 1) := by decide +kernel
theorem dX0_firstTaken_28 : decode cX0_firstTaken 28 = .ok (.aload_n 0, 1) := by decide +kernel
theorem dX0_firstTaken_29 : decode cX0_firstTaken 29 = .ok (.getfield 25, 3) := by decide +kernel
theorem dX0_firstTaken_32 : decode cX0_firstTaken 32 = .ok (.iconst 1, 1) := by decide +kernel
theorem dX0_firstTaken_33 : decode cX0_firstTaken 33 = .ok (.iload_n 3, 1) := by decide +kernel
theorem dX0_firstTaken_34 : decode cX0_firstTaken 34 = .ok (.ishl, 1) := by decide +kernel
theorem dX0_firstTaken_35 : decode cX0_firstTaken 35 = .ok (.iload_n 1, 1) := by decide +kernel
theorem dX0_firstTaken_36 : decode cX0_firstTaken 36 = .ok (.iconst 1, 1) := by decide +kernel
theorem dX0_firstTaken_37 : decode cX0_firstTaken 37 = .ok (.isub, 1) := by decide +kernel
theorem dX0_firstTaken_38 : decode cX0_firstTaken 38 = .ok (.invokestatic 131, 3) := by decide +kernel
theorem dX0_firstTaken_41 : decode cX0_firstTaken 41 = .ok (.isub, 1) := by decide +kernel
theorem dX0_firstTaken_42 : decode cX0_firstTaken 42 = .ok (.iload_n 2, 1) := by decide +kernel
theorem dX0_firstTaken_43 : decode cX0_firstTaken 43 = .ok (.if_icmp .ne 5, 3) := by decide +kernel
theorem dX0_firstTaken_46 : decode cX0_firstTaken 46 = .ok (.iload_n 3, 1) := by decide +kernel
theorem dX0_firstTaken_47 : decode cX0_firstTaken 47 = .ok (.ireturn, 1) := by decide +kernel
theorem dX0_firstTaken_48 : decode cX0_firstTaken 48 = .ok (.iinc 3 1, 3) := by decide +kernel
theorem dX0_firstTaken_51 : decode cX0_firstTaken 51 = .ok (.goto (-43), 3) := by decide +kernel
theorem dX0_firstTaken_54 : decode cX0_firstTaken 54 = .ok (.iconst (-1), 1) := by decide +kernel
theorem dX0_firstTaken_55 : decode cX0_firstTaken 55 = .ok (.ireturn, 1) := by decide +kernel
theorem dX0_sumLanes_0 : decode cX0_sumLanes 0 = .ok (.iconst 0, 1) := by decide +kernel
theorem dX0_sumLanes_1 : decode cX0_sumLanes 1 = .ok (.istore_n 1, 1) := by decide +kernel
theorem dX0_sumLanes_2 : decode cX0_sumLanes 2 = .ok (.iload_n 1, 1) := by decide +kernel
theorem dX0_sumLanes_3 : decode cX0_sumLanes 3 = .ok (.iconst 5, 1) := by decide +kernel
theorem dX0_sumLanes_4 : decode cX0_sumLanes 4 = .ok (.if_icmp .ge 23, 3) := by decide +kernel
theorem dX0_sumLanes_7 : decode cX0_sumLanes 7 = .ok (.aload_n 0, 1) := by decide +kernel
theorem dX0_sumLanes_8 : decode cX0_sumLanes 8 = .ok (.getfield 25, 3) := by decide +kernel
theorem dX0_sumLanes_11 : decode cX0_sumLanes 11 = .ok (.iload_n 1, 1) := by decide +kernel
theorem dX0_sumLanes_12 : decode cX0_sumLanes 12 = .ok (.aload_n 0, 1) := by decide +kernel
theorem dX0_sumLanes_13 : decode cX0_sumLanes 13 = .ok (.getfield 9, 3) := by decide +kernel
theorem dX0_sumLanes_16 : decode cX0_sumLanes 16 = .ok (.iload_n 1, 1) := by decide +kernel
theorem dX0_sumLanes_17 : decode cX0_sumLanes 17 = .ok (.invokevirtual 122, 3) := by decide +kernel
theorem dX0_sumLanes_20 : decode cX0_sumLanes 20 = .ok (.iastore, 1) := by decide +kernel
theorem dX0_sumLanes_21 : decode cX0_sumLanes 21 = .ok (.iinc 1 1, 3) := by decide +kernel
theorem dX0_sumLanes_24 : decode cX0_sumLanes 24 = .ok (.goto (-22), 3) := by decide +kernel
theorem dX0_sumLanes_27 : decode cX0_sumLanes 27 = .ok (.return_, 1) := by decide +kernel
theorem dX0_aheadBy_0 : decode cX0_aheadBy 0 = .ok (.iload_n 2, 1) := by decide +kernel
theorem dX0_aheadBy_1 : decode cX0_aheadBy 1 = .ok (.ifCond .gt 5, 3) := by decide +kernel
theorem dX0_aheadBy_4 : decode cX0_aheadBy 4 = .ok (.iconst 0, 1) := by decide +kernel
theorem dX0_aheadBy_5 : decode cX0_aheadBy 5 = .ok (.ireturn, 1) := by decide +kernel
theorem dX0_aheadBy_6 : decode cX0_aheadBy 6 = .ok (.iconst 0, 1) := by decide +kernel
theorem dX0_aheadBy_7 : decode cX0_aheadBy 7 = .ok (.istore_n 3, 1) := by decide +kernel
theorem dX0_aheadBy_8 : decode cX0_aheadBy 8 = .ok (.iconst 0, 1) := by decide +kernel
theorem dX0_aheadBy_9 : decode cX0_aheadBy 9 = .ok (.istore 4, 2) := by decide +kernel
theorem dX0_aheadBy_11 : decode cX0_aheadBy 11 = .ok (.iconst 0, 1) := by decide +kernel
theorem dX0_aheadBy_12 : decode cX0_aheadBy 12 = .ok (.istore 5, 2) := by decide +kernel
theorem dX0_aheadBy_14 : decode cX0_aheadBy 14 = .ok (.iload 5, 2) := by decide +kernel
theorem dX0_aheadBy_16 : decode cX0_aheadBy 16 = .ok (.iconst 5, 1) := by decide +kernel
theorem dX0_aheadBy_17 : decode cX0_aheadBy 17 = .ok (.if_icmp .ge 62, 3) := by decide +kernel
theorem dX0_aheadBy_20 : decode cX0_aheadBy 20 = .ok (.aload_n 0, 1) := by decide +kernel
theorem dX0_aheadBy_21 : decode cX0_aheadBy 21 = .ok (.iload 5, 2) := by decide +kernel
theorem dX0_aheadBy_23 : decode cX0_aheadBy 23 = .ok (.iaload, 1) := by decide +kernel
theorem dX0_aheadBy_24 : decode cX0_aheadBy 24 = .ok (.ifCond .le 49, 3) := by decide +kernel
theorem dX0_aheadBy_27 : decode cX0_aheadBy 27 = .ok (.iload_n 1, 1) := by decide +kernel
theorem dX0_aheadBy_28 : decode cX0_aheadBy 28 = .ok (.iload 5, 2) := by decide +kernel
theorem dX0_aheadBy_30 : decode cX0_aheadBy 30 = .ok (.ishr, 1) := by decide +kernel
theorem dX0_aheadBy_31 : decode cX0_aheadBy 31 = .ok (.iconst 1, 1) := by decide +kernel
theorem dX0_aheadBy_32 : decode cX0_aheadBy 32 = .ok (.iand, 1) := by decide +kernel
theorem dX0_aheadBy_33 : decode cX0_aheadBy 33 = .ok (.ifCond .ne 40, 3) := by decide +kernel
theorem dX0_aheadBy_36 : decode cX0_aheadBy 36 = .ok (.aload_n 0, 1) := by decide +kernel
theorem dX0_aheadBy_37 : decode cX0_aheadBy 37 = .ok (.iload 5, 2) := by decide +kernel
theorem dX0_aheadBy_39 : decode cX0_aheadBy 39 = .ok (.iaload, 1) := by decide +kernel
theorem dX0_aheadBy_40 : decode cX0_aheadBy 40 = .ok (.aload_n 0, 1) := by decide +kernel
theorem dX0_aheadBy_41 : decode cX0_aheadBy 41 = .ok (.iload_n 1, 1) := by decide +kernel
theorem dX0_aheadBy_42 : decode cX0_aheadBy 42 = .ok (.iconst 1, 1) := by decide +kernel
theorem dX0_aheadBy_43 : decode cX0_aheadBy 43 = .ok (.iload 5, 2) := by decide +kernel
theorem dX0_aheadBy_45 : decode cX0_aheadBy 45 = .ok (.ishl, 1) := by decide +kernel
theorem dX0_aheadBy_46 : decode cX0_aheadBy 46 = .ok (.ior, 1) := by decide +kernel
theorem dX0_aheadBy_47 : decode cX0_aheadBy 47 = .ok (.iload_n 2, 1) := by decide +kernel
theorem dX0_aheadBy_48 : decode cX0_aheadBy 48 = .ok (.iconst 1, 1) := by decide +kernel
theorem dX0_aheadBy_49 : decode cX0_aheadBy 49 = .ok (.isub, 1) := by decide +kernel
theorem dX0_aheadBy_50 : decode cX0_aheadBy 50 = .ok (.invokestatic 131, 3) := by decide +kernel
theorem dX0_aheadBy_53 : decode cX0_aheadBy 53 = .ok (.isub, 1) := by decide +kernel
theorem dX0_aheadBy_54 : decode cX0_aheadBy 54 = .ok (.istore 6, 2) := by decide +kernel
theorem dX0_aheadBy_56 : decode cX0_aheadBy 56 = .ok (.iload_n 3, 1) := by decide +kernel
theorem dX0_aheadBy_57 : decode cX0_aheadBy 57 = .ok (.ifCond .eq 10, 3) := by decide +kernel
theorem dX0_aheadBy_60 : decode cX0_aheadBy 60 = .ok (.iload 6, 2) := by decide +kernel
theorem dX0_aheadBy_62 : decode cX0_aheadBy 62 = .ok (.iload 4, 2) := by decide +kernel
theorem dX0_aheadBy_64 : decode cX0_aheadBy 64 = .ok (.if_icmp .le 9, 3) := by decide +kernel
theorem dX0_aheadBy_67 : decode cX0_aheadBy 67 = .ok (.iload 6, 2) := by decide +kernel
theorem dX0_aheadBy_69 : decode cX0_aheadBy 69 = .ok (.istore 4, 2) := by decide +kernel
theorem dX0_aheadBy_71 : decode cX0_aheadBy 71 = .ok (.iconst 1, 1) := by decide +kernel
theorem dX0_aheadBy_72 : decode cX0_aheadBy 72 = .ok (.istore_n 3, 1) := by decide +kernel
theorem dX0_aheadBy_73 : decode cX0_aheadBy 73 = .ok (.iinc 5 1, 3) := by decide +kernel
theorem dX0_aheadBy_76 : decode cX0_aheadBy 76 = .ok (.goto (-62), 3) := by decide +kernel
theorem dX0_aheadBy_79 : decode cX0_aheadBy 79 = .ok (.iload 4, 2) := by decide +kernel
theorem dX0_aheadBy_81 : decode cX0_aheadBy 81 = .ok (.ireturn, 1) := by decide +kernel
theorem dX0_addedInAllOrders_0 : decode cX0_addedInAllOrders 0 = .ok (.iconst 1, 1) := by decide +kernel
theorem dX0_addedInAllOrders_1 : decode cX0_addedInAllOrders 1 = .ok (.aload_n 0, 1) := by decide +kernel
theorem dX0_addedInAllOrders_2 : decode cX0_addedInAllOrders 2 = .ok (.getfield 9, 3) := by decide +kernel
theorem dX0_addedInAllOrders_5 : decode cX0_addedInAllOrders 5 = .ok (.getfield 138, 3) := by decide +kernel
theorem dX0_addedInAllOrders_8 : decode cX0_addedInAllOrders 8 = .ok (.ishl, 1) := by decide +kernel
theorem dX0_addedInAllOrders_9 : decode cX0_addedInAllOrders 9 = .ok (.istore_n 3, 1) := by decide +kernel
theorem dX0_addedInAllOrders_10 : decode cX0_addedInAllOrders 10 = .ok (.iconst 0, 1) := by decide +kernel
theorem dX0_addedInAllOrders_11 : decode cX0_addedInAllOrders 11 = .ok (.istore 4, 2) := by decide +kernel
theorem dX0_addedInAllOrders_13 : decode cX0_addedInAllOrders 13 = .ok (.iload 4, 2) := by decide +kernel
theorem dX0_addedInAllOrders_15 : decode cX0_addedInAllOrders 15 = .ok (.iload_n 3, 1) := by decide +kernel
theorem dX0_addedInAllOrders_16 : decode cX0_addedInAllOrders 16 = .ok (.if_icmp .ge 44, 3) := by decide +kernel
theorem dX0_addedInAllOrders_19 : decode cX0_addedInAllOrders 19 = .ok (.aload_n 0, 1) := by decide +kernel
theorem dX0_addedInAllOrders_20 : decode cX0_addedInAllOrders 20 = .ok (.getfield 15, 3) := by decide +kernel
theorem dX0_addedInAllOrders_23 : decode cX0_addedInAllOrders 23 = .ok (.aload_n 0, 1) := by decide +kernel
theorem dX0_addedInAllOrders_24 : decode cX0_addedInAllOrders 24 = .ok (.getfield 9, 3) := by decide +kernel
theorem dX0_addedInAllOrders_27 : decode cX0_addedInAllOrders 27 = .ok (.invokevirtual 53, 3) := by decide +kernel
theorem dX0_addedInAllOrders_30 : decode cX0_addedInAllOrders 30 = .ok (.aload_n 0, 1) := by decide +kernel
theorem dX0_addedInAllOrders_31 : decode cX0_addedInAllOrders 31 = .ok (.getfield 15, 3) := by decide +kernel
theorem dX0_addedInAllOrders_34 : decode cX0_addedInAllOrders 34 = .ok (.iload 4, 2) := by decide +kernel
theorem dX0_addedInAllOrders_36 : decode cX0_addedInAllOrders 36 = .ok (.invokevirtual 141, 3) := by decide +kernel
theorem dX0_addedInAllOrders_39 : decode cX0_addedInAllOrders 39 = .ok (.aload_n 0, 1) := by decide +kernel
theorem dX0_addedInAllOrders_40 : decode cX0_addedInAllOrders 40 = .ok (.getfield 38, 3) := by decide +kernel
theorem dX0_addedInAllOrders_43 : decode cX0_addedInAllOrders 43 = .ok (.iload 4, 2) := by decide +kernel
theorem dX0_addedInAllOrders_45 : decode cX0_addedInAllOrders 45 = .ok (.aload_n 0, 1) := by decide +kernel
theorem dX0_addedInAllOrders_46 : decode cX0_addedInAllOrders 46 = .ok (.getfield 15, 3) := by decide +kernel
theorem dX0_addedInAllOrders_49 : decode cX0_addedInAllOrders 49 = .ok (.iload_n 2, 1) := by decide +kernel
theorem dX0_addedInAllOrders_50 : decode cX0_addedInAllOrders 50 = .ok (.invokevirtual 59, 3) := by decide +kernel
theorem dX0_addedInAllOrders_53 : decode cX0_addedInAllOrders 53 = .ok (.iastore, 1) := by decide +kernel
theorem dX0_addedInAllOrders_54 : decode cX0_addedInAllOrders 54 = .ok (.iinc 4 1, 3) := by decide +kernel
theorem dX0_addedInAllOrders_57 : decode cX0_addedInAllOrders 57 = .ok (.goto (-44), 3) := by decide +kernel
theorem dX0_addedInAllOrders_60 : decode cX0_addedInAllOrders 60 = .ok (.iconst 1, 1) := by decide +kernel
theorem dX0_addedInAllOrders_61 : decode cX0_addedInAllOrders 61 = .ok (.iload_n 1, 1) := by decide +kernel
theorem dX0_addedInAllOrders_62 : decode cX0_addedInAllOrders 62 = .ok (.ishl, 1) := by decide +kernel
theorem dX0_addedInAllOrders_63 : decode cX0_addedInAllOrders 63 = .ok (.istore 4, 2) := by decide +kernel
theorem dX0_addedInAllOrders_65 : decode cX0_addedInAllOrders 65 = .ok (.lconst 0, 1) := by decide +kernel
theorem dX0_addedInAllOrders_66 : decode cX0_addedInAllOrders 66 = .ok (.lstore 5, 2) := by decide +kernel
theorem dX0_addedInAllOrders_68 : decode cX0_addedInAllOrders 68 = .ok (.iconst 0, 1) := by decide +kernel
theorem dX0_addedInAllOrders_69 : decode cX0_addedInAllOrders 69 = .ok (.istore 7, 2) := by decide +kernel
theorem dX0_addedInAllOrders_71 : decode cX0_addedInAllOrders 71 = .ok (.iload 7, 2) := by decide +kernel
theorem dX0_addedInAllOrders_73 : decode cX0_addedInAllOrders 73 = .ok (.iload_n 3, 1) := by decide +kernel
theorem dX0_addedInAllOrders_74 : decode cX0_addedInAllOrders 74 = .ok (.if_icmp .ge 48, 3) := by decide +kernel
theorem dX0_addedInAllOrders_77 : decode cX0_addedInAllOrders 77 = .ok (.iload 7, 2) := by decide +kernel
theorem dX0_addedInAllOrders_79 : decode cX0_addedInAllOrders 79 = .ok (.iload 4, 2) := by decide +kernel
theorem dX0_addedInAllOrders_81 : decode cX0_addedInAllOrders 81 = .ok (.iand, 1) := by decide +kernel
theorem dX0_addedInAllOrders_82 : decode cX0_addedInAllOrders 82 = .ok (.ifCond .ne 34, 3) := by decide +kernel
theorem dX0_addedInAllOrders_85 : decode cX0_addedInAllOrders 85 = .ok (.lload 5, 2) := by decide +kernel
theorem dX0_addedInAllOrders_87 : decode cX0_addedInAllOrders 87 = .ok (.aload_n 0, 1) := by decide +kernel
theorem dX0_addedInAllOrders_88 : decode cX0_addedInAllOrders 88 = .ok (.iload 7, 2) := by decide +kernel
theorem dX0_addedInAllOrders_90 : decode cX0_addedInAllOrders 90 = .ok (.invokevirtual 144, 3) := by decide +kernel
theorem dX0_addedInAllOrders_93 : decode cX0_addedInAllOrders 93 = .ok (.aload_n 0, 1) := by decide +kernel
theorem dX0_addedInAllOrders_94 : decode cX0_addedInAllOrders 94 = .ok (.getfield 38, 3) := by decide +kernel
theorem dX0_addedInAllOrders_97 : decode cX0_addedInAllOrders 97 = .ok (.iload 7, 2) := by decide +kernel
theorem dX0_addedInAllOrders_99 : decode cX0_addedInAllOrders 99 = .ok (.iload 4, 2) := by decide +kernel
theorem dX0_addedInAllOrders_101 : decode cX0_addedInAllOrders 101 = .ok (.ior, 1) := by decide +kernel
theorem dX0_addedInAllOrders_102 : decode cX0_addedInAllOrders 102 = .ok (.iaload, 1) := by decide +kernel
theorem dX0_addedInAllOrders_103 : decode cX0_addedInAllOrders 103 = .ok (.aload_n 0, 1) := by decide +kernel
theorem dX0_addedInAllOrders_104 : decode cX0_addedInAllOrders 104 = .ok (.getfield 38, 3) := by decide +kernel
theorem dX0_addedInAllOrders_107 : decode cX0_addedInAllOrders 107 = .ok (.iload 7, 2) := by decide +kernel
theorem dX0_addedInAllOrders_109 : decode cX0_addedInAllOrders 109 = .ok (.iaload, 1) := by decide +kernel
theorem dX0_addedInAllOrders_110 : decode cX0_addedInAllOrders 110 = .ok (.isub, 1) := by decide +kernel
theorem dX0_addedInAllOrders_111 : decode cX0_addedInAllOrders 111 = .ok (.i2l, 1) := by decide +kernel
theorem dX0_addedInAllOrders_112 : decode cX0_addedInAllOrders 112 = .ok (.lmul, 1) := by decide +kernel
theorem dX0_addedInAllOrders_113 : decode cX0_addedInAllOrders 113 = .ok (.ladd, 1) := by decide +kernel
theorem dX0_addedInAllOrders_114 : decode cX0_addedInAllOrders 114 = .ok (.lstore 5, 2) := by decide +kernel
theorem dX0_addedInAllOrders_116 : decode cX0_addedInAllOrders 116 = .ok (.iinc 7 1, 3) := by decide +kernel
theorem dX0_addedInAllOrders_119 : decode cX0_addedInAllOrders 119 = .ok (.goto (-48), 3) := by decide +kernel
theorem dX0_addedInAllOrders_122 : decode cX0_addedInAllOrders 122 = .ok (.lload 5, 2) := by decide +kernel
theorem dX0_addedInAllOrders_124 : decode cX0_addedInAllOrders 124 = .ok (.lreturn, 1) := by decide +kernel
theorem dX0_ordersBehind_0 : decode cX0_ordersBehind 0 = .ok (.iload_n 1, 1) := by decide +kernel
theorem dX0_ordersBehind_1 : decode cX0_ordersBehind 1 = .ok (.invokestatic 148, 3) := by decide +kernel
theorem dX0_ordersBehind_4 : decode cX0_ordersBehind 4 = .ok (.istore_n 2, 1) := by decide +kernel
theorem dX0_ordersBehind_5 : decode cX0_ordersBehind 5 = .ok (.aload_n 0, 1) := by decide +kernel
theorem dX0_ordersBehind_6 : decode cX0_ordersBehind 6 = .ok (.getfield 9, 3) := by decide +kernel
theorem dX0_ordersBehind_9 : decode cX0_ordersBehind 9 = .ok (.getfield 138, 3) := by decide +kernel
theorem dX0_ordersBehind_12 : decode cX0_ordersBehind 12 = .ok (.iconst 1, 1) := by decide +kernel
theorem dX0_ordersBehind_13 : decode cX0_ordersBehind 13 = .ok (.isub, 1) := by decide +kernel
theorem dX0_ordersBehind_14 : decode cX0_ordersBehind 14 = .ok (.iload_n 2, 1) := by decide +kernel
theorem dX0_ordersBehind_15 : decode cX0_ordersBehind 15 = .ok (.isub, 1) := by decide +kernel
theorem dX0_ordersBehind_16 : decode cX0_ordersBehind 16 = .ok (.istore_n 3, 1) := by decide +kernel
theorem dX0_ordersBehind_17 : decode cX0_ordersBehind 17 = .ok (.iload_n 3, 1) := by decide +kernel
theorem dX0_ordersBehind_18 : decode cX0_ordersBehind 18 = .ok (.ifCond .ge 7, 3) := by decide +kernel
theorem dX0_ordersBehind_21 : decode cX0_ordersBehind 21 = .ok (.lconst 0, 1) := by decide +kernel
theorem dX0_ordersBehind_22 : decode cX0_ordersBehind 22 = .ok (.goto 15, 3) := by decide +kernel
theorem dX0_ordersBehind_25 : decode cX0_ordersBehind 25 = .ok (.getstatic 153, 3) := by decide +kernel
theorem dX0_ordersBehind_28 : decode cX0_ordersBehind 28 = .ok (.iload_n 2, 1) := by decide +kernel
theorem dX0_ordersBehind_29 : decode cX0_ordersBehind 29 = .ok (.iaload, 1) := by decide +kernel
theorem dX0_ordersBehind_30 : decode cX0_ordersBehind 30 = .ok (.getstatic 153, 3) := by decide +kernel
theorem dX0_ordersBehind_33 : decode cX0_ordersBehind 33 = .ok (.iload_n 3, 1) := by decide +kernel
theorem dX0_ordersBehind_34 : decode cX0_ordersBehind 34 = .ok (.iaload, 1) := by decide +kernel
theorem dX0_ordersBehind_35 : decode cX0_ordersBehind 35 = .ok (.imul, 1) := by decide +kernel
theorem dX0_ordersBehind_36 : decode cX0_ordersBehind 36 = .ok (.i2l, 1) := by decide +kernel
theorem dX0_ordersBehind_37 : decode cX0_ordersBehind 37 = .ok (.lreturn, 1) := by decide +kernel
theorem dX1_init_0 : decode cX1_init 0 = .ok (.aload_n 0, 1) := by decide +kernel
theorem dX1_init_1 : decode cX1_init 1 = .ok (.invokespecial 1, 3) := by decide +kernel
theorem dX1_init_4 : decode cX1_init 4 = .ok (.return_, 1) := by decide +kernel
theorem dX1_force_0 : decode cX1_force 0 = .ok (.iconst (-1), 1) := by decide +kernel
theorem dX1_force_1 : decode cX1_force 1 = .ok (.ireturn, 1) := by decide +kernel
theorem dX2_init_0 : decode cX2_init 0 = .ok (.aload_n 0, 1) := by decide +kernel
theorem dX2_init_1 : decode cX2_init 1 = .ok (.invokespecial 1, 3) := by decide +kernel
theorem dX2_init_4 : decode cX2_init 4 = .ok (.return_, 1) := by decide +kernel
theorem dX2_lie_0 : decode cX2_lie 0 = .ok (.aload_n 0, 1) := by decide +kernel
theorem dX2_lie_1 : decode cX2_lie 1 = .ok (.iload_n 1, 1) := by decide +kernel
theorem dX2_lie_2 : decode cX2_lie 2 = .ok (.putfield 7, 3) := by decide +kernel
theorem dX2_lie_5 : decode cX2_lie 5 = .ok (.aload_n 0, 1) := by decide +kernel
theorem dX2_lie_6 : decode cX2_lie 6 = .ok (.iload_n 2, 1) := by decide +kernel
theorem dX2_lie_7 : decode cX2_lie 7 = .ok (.putfield 13, 3) := by decide +kernel
theorem dX2_lie_10 : decode cX2_lie 10 = .ok (.aload_n 0, 1) := by decide +kernel
theorem dX2_lie_11 : decode cX2_lie 11 = .ok (.iconst 0, 1) := by decide +kernel
theorem dX2_lie_12 : decode cX2_lie 12 = .ok (.putfield 16, 3) := by decide +kernel
theorem dX2_lie_15 : decode cX2_lie 15 = .ok (.return_, 1) := by decide +kernel
theorem dX2_isLost_0 : decode cX2_isLost 0 = .ok (.aload_n 0, 1) := by decide +kernel
theorem dX2_isLost_1 : decode cX2_isLost 1 = .ok (.getfield 7, 3) := by decide +kernel
theorem dX2_isLost_4 : decode cX2_isLost 4 = .ok (.invokestatic 19, 3) := by decide +kernel
theorem dX2_isLost_7 : decode cX2_isLost 7 = .ok (.ifCond .ne 7, 3) := by decide +kernel
theorem dX2_isLost_10 : decode cX2_isLost 10 = .ok (.iconst 1, 1) := by decide +kernel
theorem dX2_isLost_11 : decode cX2_isLost 11 = .ok (.goto 4, 3) := by decide +kernel
theorem dX2_isLost_14 : decode cX2_isLost 14 = .ok (.iconst 0, 1) := by decide +kernel
theorem dX2_isLost_15 : decode cX2_isLost 15 = .ok (.ireturn, 1) := by decide +kernel
theorem dX2_goOn_0 : decode cX2_goOn 0 = .ok (.aload_n 0, 1) := by decide +kernel
theorem dX2_goOn_1 : decode cX2_goOn 1 = .ok (.invokevirtual 25, 3) := by decide +kernel
theorem dX2_goOn_4 : decode cX2_goOn 4 = .ok (.ifCond .eq 4, 3) := by decide +kernel
theorem dX2_goOn_7 : decode cX2_goOn 7 = .ok (.return_, 1) := by decide +kernel
theorem dX2_goOn_8 : decode cX2_goOn 8 = .ok (.aload_n 0, 1) := by decide +kernel
theorem dX2_goOn_9 : decode cX2_goOn 9 = .ok (.aload_n 1, 1) := by decide +kernel
theorem dX2_goOn_10 : decode cX2_goOn 10 = .ok (.aload_n 0, 1) := by decide +kernel
theorem dX2_goOn_11 : decode cX2_goOn 11 = .ok (.getfield 13, 3) := by decide +kernel
theorem dX2_goOn_14 : decode cX2_goOn 14 = .ok (.aload_n 1, 1) := by decide +kernel
theorem dX2_goOn_15 : decode cX2_goOn 15 = .ok (.getfield 29, 3) := by decide +kernel
theorem dX2_goOn_18 : decode cX2_goOn 18 = .ok (.aload_n 0, 1) := by decide +kernel
theorem dX2_goOn_19 : decode cX2_goOn 19 = .ok (.getfield 7, 3) := by decide +kernel
theorem dX2_goOn_22 : decode cX2_goOn 22 = .ok (.iaload, 1) := by decide +kernel
theorem dX2_goOn_23 : decode cX2_goOn 23 = .ok (.iadd, 1) := by decide +kernel
theorem dX2_goOn_24 : decode cX2_goOn 24 = .ok (.invokevirtual 35, 3) := by decide +kernel
theorem dX2_goOn_27 : decode cX2_goOn 27 = .ok (.putfield 13, 3) := by decide +kernel
theorem dX2_goOn_30 : decode cX2_goOn 30 = .ok (.iconst 0, 1) := by decide +kernel
theorem dX2_goOn_31 : decode cX2_goOn 31 = .ok (.istore_n 3, 1) := by decide +kernel
theorem dX2_goOn_32 : decode cX2_goOn 32 = .ok (.iload_n 3, 1) := by decide +kernel
theorem dX2_goOn_33 : decode cX2_goOn 33 = .ok (.aload_n 1, 1) := by decide +kernel
theorem dX2_goOn_34 : decode cX2_goOn 34 = .ok (.getfield 39, 3) := by decide +kernel
theorem dX2_goOn_37 : decode cX2_goOn 37 = .ok (.if_icmp .ge 58, 3) := by decide +kernel
theorem dX2_goOn_40 : decode cX2_goOn 40 = .ok (.aload_n 0, 1) := by decide +kernel
theorem dX2_goOn_41 : decode cX2_goOn 41 = .ok (.invokevirtual 25, 3) := by decide +kernel
theorem dX2_goOn_44 : decode cX2_goOn 44 = .ok (.ifCond .ne 51, 3) := by decide +kernel
theorem dX2_goOn_47 : decode cX2_goOn 47 = .ok (.aload_n 1, 1) := by decide +kernel
theorem dX2_goOn_48 : decode cX2_goOn 48 = .ok (.iload_n 3, 1) := by decide +kernel
theorem dX2_goOn_49 : decode cX2_goOn 49 = .ok (.iload_n 2, 1) := by decide +kernel
theorem dX2_goOn_50 : decode cX2_goOn 50 = .ok (.aload_n 0, 1) := by decide +kernel
theorem dX2_goOn_51 : decode cX2_goOn 51 = .ok (.getfield 7, 3) := by decide +kernel
theorem dX2_goOn_54 : decode cX2_goOn 54 = .ok (.aload_n 0, 1) := by decide +kernel
theorem dX2_goOn_55 : decode cX2_goOn 55 = .ok (.getfield 13, 3) := by decide +kernel
theorem dX2_goOn_58 : decode cX2_goOn 58 = .ok (.invokevirtual 42, 3) := by decide +kernel
theorem dX2_goOn_61 : decode cX2_goOn 61 = .ok (.istore 4, 2) := by decide +kernel
theorem dX2_goOn_63 : decode cX2_goOn 63 = .ok (.iload 4, 2) := by decide +kernel
theorem dX2_goOn_65 : decode cX2_goOn 65 = .ok (.ifCond .eq 24, 3) := by decide +kernel
theorem dX2_goOn_68 : decode cX2_goOn 68 = .ok (.aload_n 0, 1) := by decide +kernel
theorem dX2_goOn_69 : decode cX2_goOn 69 = .ok (.dup, 1) := by decide +kernel
theorem dX2_goOn_70 : decode cX2_goOn 70 = .ok (.getfield 7, 3) := by decide +kernel
theorem dX2_goOn_73 : decode cX2_goOn 73 = .ok (.iload 4, 2) := by decide +kernel
theorem dX2_goOn_75 : decode cX2_goOn 75 = .ok (.iadd, 1) := by decide +kernel
theorem dX2_goOn_76 : decode cX2_goOn 76 = .ok (.putfield 7, 3) := by decide +kernel
theorem dX2_goOn_79 : decode cX2_goOn 79 = .ok (.aload_n 0, 1) := by decide +kernel
theorem dX2_goOn_80 : decode cX2_goOn 80 = .ok (.dup, 1) := by decide +kernel
theorem dX2_goOn_81 : decode cX2_goOn 81 = .ok (.getfield 16, 3) := by decide +kernel
theorem dX2_goOn_84 : decode cX2_goOn 84 = .ok (.iconst 1, 1) := by decide +kernel
theorem dX2_goOn_85 : decode cX2_goOn 85 = .ok (.iadd, 1) := by decide +kernel
theorem dX2_goOn_86 : decode cX2_goOn 86 = .ok (.putfield 16, 3) := by decide +kernel
theorem dX2_goOn_89 : decode cX2_goOn 89 = .ok (.iinc 3 1, 3) := by decide +kernel
theorem dX2_goOn_92 : decode cX2_goOn 92 = .ok (.goto (-60), 3) := by decide +kernel
theorem dX2_goOn_95 : decode cX2_goOn 95 = .ok (.return_, 1) := by decide +kernel
theorem dX3_init_0 : decode cX3_init 0 = .ok (.aload_n 0, 1) := by decide +kernel
theorem dX3_init_1 : decode cX3_init 1 = .ok (.invokespecial 1, 3) := by decide +kernel
theorem dX3_init_4 : decode cX3_init 4 = .ok (.return_, 1) := by decide +kernel
theorem dX3_force_0 : decode cX3_force 0 = .ok (.iconst 1, 1) := by decide +kernel
theorem dX3_force_1 : decode cX3_force 1 = .ok (.ireturn, 1) := by decide +kernel
theorem dX3_reach_0 : decode cX3_reach 0 = .ok (.iconst 0, 1) := by decide +kernel
theorem dX3_reach_1 : decode cX3_reach 1 = .ok (.ireturn, 1) := by decide +kernel
theorem dX3_isAwake_0 : decode cX3_isAwake 0 = .ok (.iconst 1, 1) := by decide +kernel
theorem dX3_isAwake_1 : decode cX3_isAwake 1 = .ok (.ireturn, 1) := by decide +kernel
theorem dX4_init_0 : decode cX4_init 0 = .ok (.aload_n 0, 1) := by decide +kernel
theorem dX4_init_1 : decode cX4_init 1 = .ok (.invokespecial 3, 3) := by decide +kernel
theorem dX4_init_4 : decode cX4_init 4 = .ok (.aload_n 0, 1) := by decide +kernel
theorem dX4_init_5 : decode cX4_init 5 = .ok (.aload_n 1, 1) := by decide +kernel
theorem dX4_init_6 : decode cX4_init 6 = .ok (.putfield 9, 3) := by decide +kernel
theorem dX4_init_9 : decode cX4_init 9 = .ok (.aload_n 0, 1) := by decide +kernel
theorem dX4_init_10 : decode cX4_init 10 = .ok (.aload_n 2, 1) := by decide +kernel
theorem dX4_init_11 : decode cX4_init 11 = .ok (.putfield 15, 3) := by decide +kernel
theorem dX4_init_14 : decode cX4_init 14 = .ok (.aload_n 0, 1) := by decide +kernel
theorem dX4_init_15 : decode cX4_init 15 = .ok (.iconst 4, 1) := by decide +kernel
theorem dX4_init_16 : decode cX4_init 16 = .ok (.newarray .int, 2) := by decide +kernel
theorem dX4_init_18 : decode cX4_init 18 = .ok (.putfield 19, 3) := by decide +kernel
theorem dX4_init_21 : decode cX4_init 21 = .ok (.return_, 1) := by decide +kernel
theorem dX4_readAll_0 : decode cX4_readAll 0 = .ok (.aload_n 0, 1) := by decide +kernel
theorem dX4_readAll_1 : decode cX4_readAll 1 = .ok (.getfield 9, 3) := by decide +kernel
theorem dX4_readAll_4 : decode cX4_readAll 4 = .ok (.invokevirtual 23, 3) := by decide +kernel
theorem dX4_readAll_7 : decode cX4_readAll 7 = .ok (.aload_n 0, 1) := by decide +kernel
theorem dX4_readAll_8 : decode cX4_readAll 8 = .ok (.getfield 9, 3) := by decide +kernel
theorem dX4_readAll_11 : decode cX4_readAll 11 = .ok (.invokevirtual 28, 3) := by decide +kernel
theorem dX4_readAll_14 : decode cX4_readAll 14 = .ok (.aload_n 0, 1) := by decide +kernel
theorem dX4_readAll_15 : decode cX4_readAll 15 = .ok (.invokevirtual 31, 3) := by decide +kernel
theorem dX4_readAll_18 : decode cX4_readAll 18 = .ok (.ifCond .ne 14, 3) := by decide +kernel
theorem dX4_readAll_21 : decode cX4_readAll 21 = .ok (.bipush (-10), 2) := by decide +kernel
theorem dX4_readAll_23 : decode cX4_readAll 23 = .ok (.aload_n 0, 1) := by decide +kernel
theorem dX4_readAll_24 : decode cX4_readAll 24 = .ok (.getfield 9, 3) := by decide +kernel
theorem dX4_readAll_27 : decode cX4_readAll 27 = .ok (.getfield 35, 3) := by decide +kernel
theorem dX4_readAll_30 : decode cX4_readAll 30 = .ok (.isub, 1) := by decide +kernel
theorem dX4_readAll_31 : decode cX4_readAll 31 = .ok (.ireturn, 1) := by decide +kernel
theorem dX4_readAll_32 : decode cX4_readAll 32 = .ok (.iconst 1, 1) := by decide +kernel
theorem dX4_readAll_33 : decode cX4_readAll 33 = .ok (.istore_n 1, 1) := by decide +kernel
theorem dX4_readAll_34 : decode cX4_readAll 34 = .ok (.aload_n 0, 1) := by decide +kernel
theorem dX4_readAll_35 : decode cX4_readAll 35 = .ok (.getfield 9, 3) := by decide +kernel
theorem dX4_readAll_38 : decode cX4_readAll 38 = .ok (.invokevirtual 28, 3) := by decide +kernel
theorem dX4_readAll_41 : decode cX4_readAll 41 = .ok (.iload_n 1, 1) := by decide +kernel
theorem dX4_readAll_42 : decode cX4_readAll 42 = .ok (.sipush 250, 3) := by decide +kernel
theorem dX4_readAll_45 : decode cX4_readAll 45 = .ok (.if_icmp .ge 44, 3) := by decide +kernel
theorem dX4_readAll_48 : decode cX4_readAll 48 = .ok (.aload_n 0, 1) := by decide +kernel
theorem dX4_readAll_49 : decode cX4_readAll 49 = .ok (.getfield 9, 3) := by decide +kernel
theorem dX4_readAll_52 : decode cX4_readAll 52 = .ok (.getfield 39, 3) := by decide +kernel
theorem dX4_readAll_55 : decode cX4_readAll 55 = .ok (.ifCond .eq 34, 3) := by decide +kernel
theorem dX4_readAll_58 : decode cX4_readAll 58 = .ok (.aload_n 0, 1) := by decide +kernel
theorem dX4_readAll_59 : decode cX4_readAll 59 = .ok (.invokevirtual 42, 3) := by decide +kernel
theorem dX4_readAll_62 : decode cX4_readAll 62 = .ok (.ifCond .ne 14, 3) := by decide +kernel
theorem dX4_readAll_65 : decode cX4_readAll 65 = .ok (.bipush (-10), 2) := by decide +kernel
theorem dX4_readAll_67 : decode cX4_readAll 67 = .ok (.aload_n 0, 1) := by decide +kernel
theorem dX4_readAll_68 : decode cX4_readAll 68 = .ok (.getfield 9, 3) := by decide +kernel
theorem dX4_readAll_71 : decode cX4_readAll 71 = .ok (.getfield 35, 3) := by decide +kernel
theorem dX4_readAll_74 : decode cX4_readAll 74 = .ok (.isub, 1) := by decide +kernel
theorem dX4_readAll_75 : decode cX4_readAll 75 = .ok (.ireturn, 1) := by decide +kernel
theorem dX4_readAll_76 : decode cX4_readAll 76 = .ok (.iinc 1 1, 3) := by decide +kernel
theorem dX4_readAll_79 : decode cX4_readAll 79 = .ok (.aload_n 0, 1) := by decide +kernel
theorem dX4_readAll_80 : decode cX4_readAll 80 = .ok (.getfield 9, 3) := by decide +kernel
theorem dX4_readAll_83 : decode cX4_readAll 83 = .ok (.invokevirtual 28, 3) := by decide +kernel
theorem dX4_readAll_86 : decode cX4_readAll 86 = .ok (.goto (-45), 3) := by decide +kernel
theorem dX4_readAll_89 : decode cX4_readAll 89 = .ok (.iload_n 1, 1) := by decide +kernel
theorem dX4_readAll_90 : decode cX4_readAll 90 = .ok (.ireturn, 1) := by decide +kernel
theorem dX4_readRing_0 : decode cX4_readRing 0 = .ok (.aload_n 0, 1) := by decide +kernel
theorem dX4_readRing_1 : decode cX4_readRing 1 = .ok (.getfield 9, 3) := by decide +kernel
theorem dX4_readRing_4 : decode cX4_readRing 4 = .ok (.ldc 45, 2) := by decide +kernel
theorem dX4_readRing_6 : decode cX4_readRing 6 = .ok (.invokevirtual 47, 3) := by decide +kernel
theorem dX4_readRing_9 : decode cX4_readRing 9 = .ok (.ifCond .eq 21, 3) := by decide +kernel
theorem dX4_readRing_12 : decode cX4_readRing 12 = .ok (.aload_n 0, 1) := by decide +kernel
theorem dX4_readRing_13 : decode cX4_readRing 13 = .ok (.iconst 0, 1) := by decide +kernel
theorem dX4_readRing_14 : decode cX4_readRing 14 = .ok (.iconst 4, 1) := by decide +kernel
theorem dX4_readRing_15 : decode cX4_readRing 15 = .ok (.bipush 24, 2) := by decide +kernel
theorem dX4_readRing_17 : decode cX4_readRing 17 = .ok (.invokevirtual 51, 3) := by decide +kernel
theorem dX4_readRing_20 : decode cX4_readRing 20 = .ok (.ifCond .eq 10, 3) := by decide +kernel
theorem dX4_readRing_23 : decode cX4_readRing 23 = .ok (.aload_n 0, 1) := by decide +kernel
theorem dX4_readRing_24 : decode cX4_readRing 24 = .ok (.invokevirtual 55, 3) := by decide +kernel
theorem dX4_readRing_27 : decode cX4_readRing 27 = .ok (.ifCond .ne 5, 3) := by decide +kernel
theorem dX4_readRing_30 : decode cX4_readRing 30 = .ok (.iconst 0, 1) := by decide +kernel
theorem dX4_readRing_31 : decode cX4_readRing 31 = .ok (.ireturn, 1) := by decide +kernel
theorem dX4_readRing_32 : decode cX4_readRing 32 = .ok (.aload_n 0, 1) := by decide +kernel
theorem dX4_readRing_33 : decode cX4_readRing 33 = .ok (.getfield 15, 3) := by decide +kernel
theorem dX4_readRing_36 : decode cX4_readRing 36 = .ok (.aload_n 0, 1) := by decide +kernel
theorem dX4_readRing_37 : decode cX4_readRing 37 = .ok (.getfield 19, 3) := by decide +kernel
theorem dX4_readRing_40 : decode cX4_readRing 40 = .ok (.iconst 0, 1) := by decide +kernel
theorem dX4_readRing_41 : decode cX4_readRing 41 = .ok (.iaload, 1) := by decide +kernel
theorem dX4_readRing_42 : decode cX4_readRing 42 = .ok (.invokevirtual 58, 3) := by decide +kernel
theorem dX4_readRing_45 : decode cX4_readRing 45 = .ok (.iconst 1, 1) := by decide +kernel
theorem dX4_readRing_46 : decode cX4_readRing 46 = .ok (.ireturn, 1) := by decide +kernel
theorem dX4_readItem_0 : decode cX4_readItem 0 = .ok (.aload_n 0, 1) := by decide +kernel
theorem dX4_readItem_1 : decode cX4_readItem 1 = .ok (.getfield 9, 3) := by decide +kernel
theorem dX4_readItem_4 : decode cX4_readItem 4 = .ok (.ldc 64, 2) := by decide +kernel
theorem dX4_readItem_6 : decode cX4_readItem 6 = .ok (.invokevirtual 47, 3) := by decide +kernel
theorem dX4_readItem_9 : decode cX4_readItem 9 = .ok (.ifCond .eq 8, 3) := by decide +kernel
theorem dX4_readItem_12 : decode cX4_readItem 12 = .ok (.aload_n 0, 1) := by decide +kernel
theorem dX4_readItem_13 : decode cX4_readItem 13 = .ok (.invokevirtual 66, 3) := by decide +kernel
theorem dX4_readItem_16 : decode cX4_readItem 16 = .ok (.ireturn, 1) := by decide +kernel
theorem dX4_readItem_17 : decode cX4_readItem 17 = .ok (.aload_n 0, 1) := by decide +kernel
theorem dX4_readItem_18 : decode cX4_readItem 18 = .ok (.getfield 9, 3) := by decide +kernel
theorem dX4_readItem_21 : decode cX4_readItem 21 = .ok (.ldc 69, 2) := by decide +kernel
theorem dX4_readItem_23 : decode cX4_readItem 23 = .ok (.invokevirtual 47, 3) := by decide +kernel
theorem dX4_readItem_26 : decode cX4_readItem 26 = .ok (.ifCond .eq 8, 3) := by decide +kernel
theorem dX4_readItem_29 : decode cX4_readItem 29 = .ok (.aload_n 0, 1) := by decide +kernel
theorem dX4_readItem_30 : decode cX4_readItem 30 = .ok (.invokevirtual 71, 3) := by decide +kernel
theorem dX4_readItem_33 : decode cX4_readItem 33 = .ok (.ireturn, 1) := by decide +kernel
theorem dX4_readItem_34 : decode cX4_readItem 34 = .ok (.aload_n 0, 1) := by decide +kernel
theorem dX4_readItem_35 : decode cX4_readItem 35 = .ok (.getfield 9, 3) := by decide +kernel
theorem dX4_readItem_38 : decode cX4_readItem 38 = .ok (.ldc 74, 2) := by decide +kernel
theorem dX4_readItem_40 : decode cX4_readItem 40 = .ok (.invokevirtual 47, 3) := by decide +kernel
theorem dX4_readItem_43 : decode cX4_readItem 43 = .ok (.ifCond .eq 25, 3) := by decide +kernel
theorem dX4_readItem_46 : decode cX4_readItem 46 = .ok (.aload_n 0, 1) := by decide +kernel
theorem dX4_readItem_47 : decode cX4_readItem 47 = .ok (.getfield 15, 3) := by decide +kernel
theorem dX4_readItem_50 : decode cX4_readItem 50 = .ok (.getfield 76, 3) := by decide +kernel
theorem dX4_readItem_53 : decode cX4_readItem 53 = .ok (.iconst 4, 1) := by decide +kernel
theorem dX4_readItem_54 : decode cX4_readItem 54 = .ok (.if_icmp .ge 14, 3) := by decide +kernel
theorem dX4_readItem_57 : decode cX4_readItem 57 = .ok (.aload_n 0, 1) := by decide +kernel
theorem dX4_readItem_58 : decode cX4_readItem 58 = .ok (.invokevirtual 79, 3) := by decide +kernel
theorem dX4_readItem_61 : decode cX4_readItem 61 = .ok (.ifCond .eq 7, 3) := by decide +kernel
theorem dX4_readItem_64 : decode cX4_readItem 64 = .ok (.iconst 1, 1) := by decide +kernel
theorem dX4_readItem_65 : decode cX4_readItem 65 = .ok (.goto 4, 3) := by decide +kernel
theorem dX4_readItem_68 : decode cX4_readItem 68 = .ok (.iconst 0, 1) := by decide +kernel
theorem dX4_readItem_69 : decode cX4_readItem 69 = .ok (.ireturn, 1) := by decide +kernel
theorem dX4_readStep_0 : decode cX4_readStep 0 = .ok (.aload_n 0, 1) := by decide +kernel
theorem dX4_readStep_1 : decode cX4_readStep 1 = .ok (.iconst 0, 1) := by decide +kernel
theorem dX4_readStep_2 : decode cX4_readStep 2 = .ok (.iconst 0, 1) := by decide +kernel
theorem dX4_readStep_3 : decode cX4_readStep 3 = .ok (.iconst 4, 1) := by decide +kernel
theorem dX4_readStep_4 : decode cX4_readStep 4 = .ok (.invokevirtual 51, 3) := by decide +kernel
theorem dX4_readStep_7 : decode cX4_readStep 7 = .ok (.ifCond .eq 21, 3) := by decide +kernel
theorem dX4_readStep_10 : decode cX4_readStep 10 = .ok (.aload_n 0, 1) := by decide +kernel
theorem dX4_readStep_11 : decode cX4_readStep 11 = .ok (.iconst 1, 1) := by decide +kernel
theorem dX4_readStep_12 : decode cX4_readStep 12 = .ok (.iconst 0, 1) := by decide +kernel
theorem dX4_readStep_13 : decode cX4_readStep 13 = .ok (.bipush 9, 2) := by decide +kernel
theorem dX4_readStep_15 : decode cX4_readStep 15 = .ok (.invokevirtual 51, 3) := by decide +kernel
theorem dX4_readStep_18 : decode cX4_readStep 18 = .ok (.ifCond .eq 10, 3) := by decide +kernel
theorem dX4_readStep_21 : decode cX4_readStep 21 = .ok (.aload_n 0, 1) := by decide +kernel
theorem dX4_readStep_22 : decode cX4_readStep 22 = .ok (.invokevirtual 55, 3) := by decide +kernel
theorem dX4_readStep_25 : decode cX4_readStep 25 = .ok (.ifCond .ne 5, 3) := by decide +kernel
theorem dX4_readStep_28 : decode cX4_readStep 28 = .ok (.iconst 0, 1) := by decide +kernel
theorem dX4_readStep_29 : decode cX4_readStep 29 = .ok (.ireturn, 1) := by decide +kernel
theorem dX4_readStep_30 : decode cX4_readStep 30 = .ok (.aload_n 0, 1) := by decide +kernel
theorem dX4_readStep_31 : decode cX4_readStep 31 = .ok (.getfield 15, 3) := by decide +kernel
theorem dX4_readStep_34 : decode cX4_readStep 34 = .ok (.getfield 82, 3) := by decide +kernel
theorem dX4_readStep_37 : decode cX4_readStep 37 = .ok (.aload_n 0, 1) := by decide +kernel
theorem dX4_readStep_38 : decode cX4_readStep 38 = .ok (.getfield 19, 3) := by decide +kernel
theorem dX4_readStep_41 : decode cX4_readStep 41 = .ok (.iconst 0, 1) := by decide +kernel
theorem dX4_readStep_42 : decode cX4_readStep 42 = .ok (.iaload, 1) := by decide +kernel
theorem dX4_readStep_43 : decode cX4_readStep 43 = .ok (.aload_n 0, 1) := by decide +kernel
theorem dX4_readStep_44 : decode cX4_readStep 44 = .ok (.getfield 19, 3) := by decide +kernel
theorem dX4_readStep_47 : decode cX4_readStep 47 = .ok (.iconst 1, 1) := by decide +kernel
theorem dX4_readStep_48 : decode cX4_readStep 48 = .ok (.iaload, 1) := by decide +kernel
theorem dX4_readStep_49 : decode cX4_readStep 49 = .ok (.iastore, 1) := by decide +kernel
theorem dX4_readStep_50 : decode cX4_readStep 50 = .ok (.iconst 1, 1) := by decide +kernel
theorem dX4_readStep_51 : decode cX4_readStep 51 = .ok (.ireturn, 1) := by decide +kernel
theorem dX4_readLumps_0 : decode cX4_readLumps 0 = .ok (.aload_n 0, 1) := by decide +kernel
theorem dX4_readLumps_1 : decode cX4_readLumps 1 = .ok (.iconst 0, 1) := by decide +kernel
theorem dX4_readLumps_2 : decode cX4_readLumps 2 = .ok (.iconst 0, 1) := by decide +kernel
theorem dX4_readLumps_3 : decode cX4_readLumps 3 = .ok (.iconst 4, 1) := by decide +kernel
theorem dX4_readLumps_4 : decode cX4_readLumps 4 = .ok (.invokevirtual 51, 3) := by decide +kernel
theorem dX4_readLumps_7 : decode cX4_readLumps 7 = .ok (.ifCond .eq 40, 3) := by decide +kernel
theorem dX4_readLumps_10 : decode cX4_readLumps 10 = .ok (.aload_n 0, 1) := by decide +kernel
theorem dX4_readLumps_11 : decode cX4_readLumps 11 = .ok (.iconst 1, 1) := by decide +kernel
theorem dX4_readLumps_12 : decode cX4_readLumps 12 = .ok (.iconst 0, 1) := by decide +kernel
theorem dX4_readLumps_13 : decode cX4_readLumps 13 = .ok (.aload_n 0, 1) := by decide +kernel
theorem dX4_readLumps_14 : decode cX4_readLumps 14 = .ok (.getfield 15, 3) := by decide +kernel
theorem dX4_readLumps_17 : decode cX4_readLumps 17 = .ok (.getfield 85, 3) := by decide +kernel
theorem dX4_readLumps_20 : decode cX4_readLumps 20 = .ok (.iconst 1, 1) := by decide +kernel
theorem dX4_readLumps_21 : decode cX4_readLumps 21 = .ok (.isub, 1) := by decide +kernel
theorem dX4_readLumps_22 : decode cX4_readLumps 22 = .ok (.invokevirtual 51, 3) := by decide +kernel
theorem dX4_readLumps_25 : decode cX4_readLumps 25 = .ok (.ifCond .eq 22, 3) := by decide +kernel
theorem dX4_readLumps_28 : decode cX4_readLumps 28 = .ok (.aload_n 0, 1) := by decide +kernel
theorem dX4_readLumps_29 : decode cX4_readLumps 29 = .ok (.iconst 2, 1) := by decide +kernel
theorem dX4_readLumps_30 : decode cX4_readLumps 30 = .ok (.iconst 0, 1) := by decide +kernel
theorem dX4_readLumps_31 : decode cX4_readLumps 31 = .ok (.sipush 999, 3) := by decide +kernel
theorem dX4_readLumps_34 : decode cX4_readLumps 34 = .ok (.invokevirtual 51, 3) := by decide +kernel
theorem dX4_readLumps_37 : decode cX4_readLumps 37 = .ok (.ifCond .eq 10, 3) := by decide +kernel
theorem dX4_readLumps_40 : decode cX4_readLumps 40 = .ok (.aload_n 0, 1) := by decide +kernel
theorem dX4_readLumps_41 : decode cX4_readLumps 41 = .ok (.invokevirtual 55, 3) := by decide +kernel
theorem dX4_readLumps_44 : decode cX4_readLumps 44 = .ok (.ifCond .ne 5, 3) := by decide +kernel
theorem dX4_readLumps_47 : decode cX4_readLumps 47 = .ok (.iconst 0, 1) := by decide +kernel
theorem dX4_readLumps_48 : decode cX4_readLumps 48 = .ok (.ireturn, 1) := by decide +kernel
theorem dX4_readLumps_49 : decode cX4_readLumps 49 = .ok (.aload_n 0, 1) := by decide +kernel
theorem dX4_readLumps_50 : decode cX4_readLumps 50 = .ok (.getfield 15, 3) := by decide +kernel
theorem dX4_readLumps_53 : decode cX4_readLumps 53 = .ok (.aload_n 0, 1) := by decide +kernel
theorem dX4_readLumps_54 : decode cX4_readLumps 54 = .ok (.getfield 19, 3) := by decide +kernel
theorem dX4_readLumps_57 : decode cX4_readLumps 57 = .ok (.iconst 0, 1) := by decide +kernel
theorem dX4_readLumps_58 : decode cX4_readLumps 58 = .ok (.iaload, 1) := by decide +kernel
theorem dX4_readLumps_59 : decode cX4_readLumps 59 = .ok (.aload_n 0, 1) := by decide +kernel
theorem dX4_readLumps_60 : decode cX4_readLumps 60 = .ok (.getfield 19, 3) := by decide +kernel
theorem dX4_readLumps_63 : decode cX4_readLumps 63 = .ok (.iconst 1, 1) := by decide +kernel
theorem dX4_readLumps_64 : decode cX4_readLumps 64 = .ok (.iaload, 1) := by decide +kernel
theorem dX4_readLumps_65 : decode cX4_readLumps 65 = .ok (.aload_n 0, 1) := by decide +kernel
theorem dX4_readLumps_66 : decode cX4_readLumps 66 = .ok (.getfield 19, 3) := by decide +kernel
theorem dX4_readLumps_69 : decode cX4_readLumps 69 = .ok (.iconst 2, 1) := by decide +kernel
theorem dX4_readLumps_70 : decode cX4_readLumps 70 = .ok (.iaload, 1) := by decide +kernel
theorem dX4_readLumps_71 : decode cX4_readLumps 71 = .ok (.invokevirtual 88, 3) := by decide +kernel
theorem dX4_readLumps_74 : decode cX4_readLumps 74 = .ok (.iconst 1, 1) := by decide +kernel
theorem dX4_readLumps_75 : decode cX4_readLumps 75 = .ok (.ireturn, 1) := by decide +kernel
theorem dX4_readMoon_0 : decode cX4_readMoon 0 = .ok (.aload_n 0, 1) := by decide +kernel
theorem dX4_readMoon_1 : decode cX4_readMoon 1 = .ok (.iconst 0, 1) := by decide +kernel
theorem dX4_readMoon_2 : decode cX4_readMoon 2 = .ok (.iconst 0, 1) := by decide +kernel
theorem dX4_readMoon_3 : decode cX4_readMoon 3 = .ok (.iconst 4, 1) := by decide +kernel
theorem dX4_readMoon_4 : decode cX4_readMoon 4 = .ok (.invokevirtual 51, 3) := by decide +kernel
theorem dX4_readMoon_7 : decode cX4_readMoon 7 = .ok (.ifCond .eq 49, 3) := by decide +kernel
theorem dX4_readMoon_10 : decode cX4_readMoon 10 = .ok (.aload_n 0, 1) := by decide +kernel
theorem dX4_readMoon_11 : decode cX4_readMoon 11 = .ok (.iconst 1, 1) := by decide +kernel
theorem dX4_readMoon_12 : decode cX4_readMoon 12 = .ok (.iconst 0, 1) := by decide +kernel
theorem dX4_readMoon_13 : decode cX4_readMoon 13 = .ok (.iconst 5, 1) := by decide +kernel
theorem dX4_readMoon_14 : decode cX4_readMoon 14 = .ok (.invokevirtual 51, 3) := by decide +kernel
theorem dX4_readMoon_17 : decode cX4_readMoon 17 = .ok (.ifCond .eq 39, 3) := by decide +kernel
theorem dX4_readMoon_20 : decode cX4_readMoon 20 = .ok (.aload_n 0, 1) := by decide +kernel
theorem dX4_readMoon_21 : decode cX4_readMoon 21 = .ok (.iconst 2, 1) := by decide +kernel
theorem dX4_readMoon_22 : decode cX4_readMoon 22 = .ok (.iconst 0, 1) := by decide +kernel
theorem dX4_readMoon_23 : decode cX4_readMoon 23 = .ok (.aload_n 0, 1) := by decide +kernel
theorem dX4_readMoon_24 : decode cX4_readMoon 24 = .ok (.getfield 15, 3) := by decide +kernel
theorem dX4_readMoon_27 : decode cX4_readMoon 27 = .ok (.getfield 85, 3) := by decide +kernel
theorem dX4_readMoon_30 : decode cX4_readMoon 30 = .ok (.iconst 1, 1) := by decide +kernel
theorem dX4_readMoon_31 : decode cX4_readMoon 31 = .ok (.isub, 1) := by decide +kernel
theorem dX4_readMoon_32 : decode cX4_readMoon 32 = .ok (.invokevirtual 51, 3) := by decide +kernel
theorem dX4_readMoon_35 : decode cX4_readMoon 35 = .ok (.ifCond .eq 21, 3) := by decide +kernel
theorem dX4_readMoon_38 : decode cX4_readMoon 38 = .ok (.aload_n 0, 1) := by decide +kernel
theorem dX4_readMoon_39 : decode cX4_readMoon 39 = .ok (.iconst 3, 1) := by decide +kernel
theorem dX4_readMoon_40 : decode cX4_readMoon 40 = .ok (.iconst 0, 1) := by decide +kernel
theorem dX4_readMoon_41 : decode cX4_readMoon 41 = .ok (.bipush 9, 2) := by decide +kernel
theorem dX4_readMoon_43 : decode cX4_readMoon 43 = .ok (.invokevirtual 51, 3) := by decide +kernel
theorem dX4_readMoon_46 : decode cX4_readMoon 46 = .ok (.ifCond .eq 10, 3) := by decide +kernel
theorem dX4_readMoon_49 : decode cX4_readMoon 49 = .ok (.aload_n 0, 1) := by decide +kernel
theorem dX4_readMoon_50 : decode cX4_readMoon 50 = .ok (.invokevirtual 55, 3) := by decide +kernel
theorem dX4_readMoon_53 : decode cX4_readMoon 53 = .ok (.ifCond .ne 5, 3) := by decide +kernel
theorem dX4_readMoon_56 : decode cX4_readMoon 56 = .ok (.iconst 0, 1) := by decide +kernel
theorem dX4_readMoon_57 : decode cX4_readMoon 57 = .ok (.ireturn, 1) := by decide +kernel
theorem dX4_readMoon_58 : decode cX4_readMoon 58 = .ok (.aload_n 0, 1) := by decide +kernel
theorem dX4_readMoon_59 : decode cX4_readMoon 59 = .ok (.getfield 15, 3) := by decide +kernel
theorem dX4_readMoon_62 : decode cX4_readMoon 62 = .ok (.aload_n 0, 1) := by decide +kernel
theorem dX4_readMoon_63 : decode cX4_readMoon 63 = .ok (.getfield 19, 3) := by decide +kernel
theorem dX4_readMoon_66 : decode cX4_readMoon 66 = .ok (.iconst 0, 1) := by decide +kernel
theorem dX4_readMoon_67 : decode cX4_readMoon 67 = .ok (.iaload, 1) := by decide +kernel
theorem dX4_readMoon_68 : decode cX4_readMoon 68 = .ok (.aload_n 0, 1) := by decide +kernel
theorem dX4_readMoon_69 : decode cX4_readMoon 69 = .ok (.getfield 19, 3) := by decide +kernel
theorem dX4_readMoon_72 : decode cX4_readMoon 72 = .ok (.iconst 1, 1) := by decide +kernel
theorem dX4_readMoon_73 : decode cX4_readMoon 73 = .ok (.iaload, 1) := by decide +kernel
theorem dX4_readMoon_74 : decode cX4_readMoon 74 = .ok (.aload_n 0, 1) := by decide +kernel
theorem dX4_readMoon_75 : decode cX4_readMoon 75 = .ok (.getfield 19, 3) := by decide +kernel
theorem dX4_readMoon_78 : decode cX4_readMoon 78 = .ok (.iconst 2, 1) := by decide +kernel
theorem dX4_readMoon_79 : decode cX4_readMoon 79 = .ok (.iaload, 1) := by decide +kernel
theorem dX4_readMoon_80 : decode cX4_readMoon 80 = .ok (.aload_n 0, 1) := by decide +kernel
theorem dX4_readMoon_81 : decode cX4_readMoon 81 = .ok (.getfield 19, 3) := by decide +kernel
theorem dX4_readMoon_84 : decode cX4_readMoon 84 = .ok (.iconst 3, 1) := by decide +kernel
theorem dX4_readMoon_85 : decode cX4_readMoon 85 = .ok (.iaload, 1) := by decide +kernel
theorem dX4_readMoon_86 : decode cX4_readMoon 86 = .ok (.invokevirtual 92, 3) := by decide +kernel
theorem dX4_readMoon_89 : decode cX4_readMoon 89 = .ok (.pop, 1) := by decide +kernel
theorem dX4_readMoon_90 : decode cX4_readMoon 90 = .ok (.iconst 1, 1) := by decide +kernel
theorem dX4_readMoon_91 : decode cX4_readMoon 91 = .ok (.ireturn, 1) := by decide +kernel
theorem dX4_takeNumber_0 : decode cX4_takeNumber 0 = .ok (.aload_n 0, 1) := by decide +kernel
theorem dX4_takeNumber_1 : decode cX4_takeNumber 1 = .ok (.getfield 9, 3) := by decide +kernel
theorem dX4_takeNumber_4 : decode cX4_takeNumber 4 = .ok (.invokevirtual 28, 3) := by decide +kernel
theorem dX4_takeNumber_7 : decode cX4_takeNumber 7 = .ok (.aload_n 0, 1) := by decide +kernel
theorem dX4_takeNumber_8 : decode cX4_takeNumber 8 = .ok (.getfield 19, 3) := by decide +kernel
theorem dX4_takeNumber_11 : decode cX4_takeNumber 11 = .ok (.iload_n 1, 1) := by decide +kernel
theorem dX4_takeNumber_12 : decode cX4_takeNumber 12 = .ok (.aload_n 0, 1) := by decide +kernel
theorem dX4_takeNumber_13 : decode cX4_takeNumber 13 = .ok (.getfield 9, 3) := by decide +kernel
theorem dX4_takeNumber_16 : decode cX4_takeNumber 16 = .ok (.invokevirtual 96, 3) := by decide +kernel
theorem dX4_takeNumber_19 : decode cX4_takeNumber 19 = .ok (.iastore, 1) := by decide +kernel
theorem dX4_takeNumber_20 : decode cX4_takeNumber 20 = .ok (.aload_n 0, 1) := by decide +kernel
theorem dX4_takeNumber_21 : decode cX4_takeNumber 21 = .ok (.getfield 19, 3) := by decide +kernel
theorem dX4_takeNumber_24 : decode cX4_takeNumber 24 = .ok (.iload_n 1, 1) := by decide +kernel
theorem dX4_takeNumber_25 : decode cX4_takeNumber 25 = .ok (.iaload, 1) := by decide +kernel
theorem dX4_takeNumber_26 : decode cX4_takeNumber 26 = .ok (.iload_n 2, 1) := by decide +kernel
theorem dX4_takeNumber_27 : decode cX4_takeNumber 27 = .ok (.iload_n 3, 1) := by decide +kernel
theorem dX4_takeNumber_28 : decode cX4_takeNumber 28 = .ok (.invokestatic 100, 3) := by decide +kernel
theorem dX4_takeNumber_31 : decode cX4_takeNumber 31 = .ok (.ireturn, 1) := by decide +kernel
theorem dX4_takeSemicolon_0 : decode cX4_takeSemicolon 0 = .ok (.aload_n 0, 1) := by decide +kernel
theorem dX4_takeSemicolon_1 : decode cX4_takeSemicolon 1 = .ok (.getfield 9, 3) := by decide +kernel
theorem dX4_takeSemicolon_4 : decode cX4_takeSemicolon 4 = .ok (.invokevirtual 28, 3) := by decide +kernel
theorem dX4_takeSemicolon_7 : decode cX4_takeSemicolon 7 = .ok (.aload_n 0, 1) := by decide +kernel
theorem dX4_takeSemicolon_8 : decode cX4_takeSemicolon 8 = .ok (.getfield 9, 3) := by decide +kernel
theorem dX4_takeSemicolon_11 : decode cX4_takeSemicolon 11 = .ok (.getfield 39, 3) := by decide +kernel
theorem dX4_takeSemicolon_14 : decode cX4_takeSemicolon 14 = .ok (.iconst 3, 1) := by decide +kernel
theorem dX4_takeSemicolon_15 : decode cX4_takeSemicolon 15 = .ok (.if_icmp .ne 7, 3) := by decide +kernel
theorem dX4_takeSemicolon_18 : decode cX4_takeSemicolon 18 = .ok (.iconst 1, 1) := by decide +kernel
theorem dX4_takeSemicolon_19 : decode cX4_takeSemicolon 19 = .ok (.goto 4, 3) := by decide +kernel
theorem dX4_takeSemicolon_22 : decode cX4_takeSemicolon 22 = .ok (.iconst 0, 1) := by decide +kernel
theorem dX4_takeSemicolon_23 : decode cX4_takeSemicolon 23 = .ok (.ireturn, 1) := by decide +kernel
theorem dX5_init_0 : decode cX5_init 0 = .ok (.aload_n 0, 1) := by decide +kernel
theorem dX5_init_1 : decode cX5_init 1 = .ok (.invokespecial 3, 3) := by decide +kernel
theorem dX5_init_4 : decode cX5_init 4 = .ok (.aload_n 0, 1) := by decide +kernel
theorem dX5_init_5 : decode cX5_init 5 = .ok (.aload_n 1, 1) := by decide +kernel
theorem dX5_init_6 : decode cX5_init 6 = .ok (.putfield 9, 3) := by decide +kernel
theorem dX5_init_9 : decode cX5_init 9 = .ok (.aload_n 0, 1) := by decide +kernel
theorem dX5_init_10 : decode cX5_init 10 = .ok (.iconst 5, 1) := by decide +kernel
theorem dX5_init_11 : decode cX5_init 11 = .ok (.newarray .int, 2) := by decide +kernel
theorem dX5_init_13 : decode cX5_init 13 = .ok (.putfield 15, 3) := by decide +kernel
theorem dX5_init_16 : decode cX5_init 16 = .ok (.aload_n 0, 1) := by decide +kernel
theorem dX5_init_17 : decode cX5_init 17 = .ok (.iconst 5, 1) := by decide +kernel
theorem dX5_init_18 : decode cX5_init 18 = .ok (.newarray .int, 2) := by decide +kernel
theorem dX5_init_20 : decode cX5_init 20 = .ok (.putfield 19, 3) := by decide +kernel
theorem dX5_init_23 : decode cX5_init 23 = .ok (.aload_n 0, 1) := by decide +kernel
theorem dX5_init_24 : decode cX5_init 24 = .ok (.bipush 120, 2) := by decide +kernel
theorem dX5_init_26 : decode cX5_init 26 = .ok (.newarray .int, 2) := by decide +kernel
theorem dX5_init_28 : decode cX5_init 28 = .ok (.putfield 22, 3) := by decide +kernel
theorem dX5_init_31 : decode cX5_init 31 = .ok (.aload_n 0, 1) := by decide +kernel
theorem dX5_init_32 : decode cX5_init 32 = .ok (.iconst 5, 1) := by decide +kernel
theorem dX5_init_33 : decode cX5_init 33 = .ok (.newarray .int, 2) := by decide +kernel
theorem dX5_init_35 : decode cX5_init 35 = .ok (.putfield 25, 3) := by decide +kernel
theorem dX5_init_38 : decode cX5_init 38 = .ok (.aload_n 0, 1) := by decide +kernel
theorem dX5_init_39 : decode cX5_init 39 = .ok (.iconst 4, 1) := by decide +kernel
theorem dX5_init_40 : decode cX5_init 40 = .ok (.newarray .int, 2) := by decide +kernel
theorem dX5_init_42 : decode cX5_init 42 = .ok (.putfield 28, 3) := by decide +kernel
theorem dX5_init_45 : decode cX5_init 45 = .ok (.aload_n 0, 1) := by decide +kernel
theorem dX5_init_46 : decode cX5_init 46 = .ok (.iconst 4, 1) := by decide +kernel
theorem dX5_init_47 : decode cX5_init 47 = .ok (.newarray .int, 2) := by decide +kernel
theorem dX5_init_49 : decode cX5_init 49 = .ok (.putfield 31, 3) := by decide +kernel
theorem dX5_init_52 : decode cX5_init 52 = .ok (.aload_n 0, 1) := by decide +kernel
theorem dX5_init_53 : decode cX5_init 53 = .ok (.iconst 4, 1) := by decide +kernel
theorem dX5_init_54 : decode cX5_init 54 = .ok (.newarray .int, 2) := by decide +kernel
theorem dX5_init_56 : decode cX5_init 56 = .ok (.putfield 34, 3) := by decide +kernel
theorem dX5_init_59 : decode cX5_init 59 = .ok (.aload_n 0, 1) := by decide +kernel
theorem dX5_init_60 : decode cX5_init 60 = .ok (.iconst 4, 1) := by decide +kernel
theorem dX5_init_61 : decode cX5_init 61 = .ok (.newarray .int, 2) := by decide +kernel
theorem dX5_init_63 : decode cX5_init 63 = .ok (.putfield 37, 3) := by decide +kernel
theorem dX5_init_66 : decode cX5_init 66 = .ok (.aload_n 0, 1) := by decide +kernel
theorem dX5_init_67 : decode cX5_init 67 = .ok (.bipush 12, 2) := by decide +kernel
theorem dX5_init_69 : decode cX5_init 69 = .ok (.invokevirtual 40, 3) := by decide +kernel
theorem dX5_init_72 : decode cX5_init 72 = .ok (.return_, 1) := by decide +kernel
theorem dX5_begin_0 : decode cX5_begin 0 = .ok (.aload_n 0, 1) := by decide +kernel
theorem dX5_begin_1 : decode cX5_begin 1 = .ok (.iload_n 1, 1) := by decide +kernel
theorem dX5_begin_2 : decode cX5_begin 2 = .ok (.putfield 44, 3) := by decide +kernel
theorem dX5_begin_5 : decode cX5_begin 5 = .ok (.aload_n 0, 1) := by decide +kernel
theorem dX5_begin_6 : decode cX5_begin 6 = .ok (.iconst 0, 1) := by decide +kernel
theorem dX5_begin_7 : decode cX5_begin 7 = .ok (.putfield 48, 3) := by decide +kernel
theorem dX5_begin_10 : decode cX5_begin 10 = .ok (.aload_n 0, 1) := by decide +kernel
theorem dX5_begin_11 : decode cX5_begin 11 = .ok (.iconst 0, 1) := by decide +kernel
theorem dX5_begin_12 : decode cX5_begin 12 = .ok (.putfield 51, 3) := by decide +kernel
theorem dX5_begin_15 : decode cX5_begin 15 = .ok (.aload_n 0, 1) := by decide +kernel
theorem dX5_begin_16 : decode cX5_begin 16 = .ok (.iconst 0, 1) := by decide +kernel
theorem dX5_begin_17 : decode cX5_begin 17 = .ok (.putfield 54, 3) := by decide +kernel
theorem dX5_begin_20 : decode cX5_begin 20 = .ok (.iconst 0, 1) := by decide +kernel
theorem dX5_begin_21 : decode cX5_begin 21 = .ok (.istore_n 2, 1) := by decide +kernel
theorem dX5_begin_22 : decode cX5_begin 22 = .ok (.iload_n 2, 1) := by decide +kernel
theorem dX5_begin_23 : decode cX5_begin 23 = .ok (.iconst 5, 1) := by decide +kernel
theorem dX5_begin_24 : decode cX5_begin 24 = .ok (.if_icmp .ge 18, 3) := by decide +kernel
theorem dX5_begin_27 : decode cX5_begin 27 = .ok (.aload_n 0, 1) := by decide +kernel
theorem dX5_begin_28 : decode cX5_begin 28 = .ok (.getfield 15, 3) := by decide +kernel
theorem dX5_begin_31 : decode cX5_begin 31 = .ok (.iload_n 2, 1) := by decide +kernel
theorem dX5_begin_32 : decode cX5_begin 32 = .ok (.iconst 5, 1) := by decide +kernel
theorem dX5_begin_33 : decode cX5_begin 33 = .ok (.iload_n 2, 1) := by decide +kernel
theorem dX5_begin_34 : decode cX5_begin 34 = .ok (.isub, 1) := by decide +kernel
theorem dX5_begin_35 : decode cX5_begin 35 = .ok (.iastore, 1) := by decide +kernel
theorem dX5_begin_36 : decode cX5_begin 36 = .ok (.iinc 2 1, 3) := by decide +kernel
theorem dX5_begin_39 : decode cX5_begin 39 = .ok (.goto (-17), 3) := by decide +kernel
theorem dX5_begin_42 : decode cX5_begin 42 = .ok (.aload_n 0, 1) := by decide +kernel
theorem dX5_begin_43 : decode cX5_begin 43 = .ok (.getfield 19, 3) := by decide +kernel
theorem dX5_begin_46 : decode cX5_begin 46 = .ok (.iconst 0, 1) := by decide +kernel
theorem dX5_begin_47 : decode cX5_begin 47 = .ok (.invokestatic 57, 3) := by decide +kernel
theorem dX5_begin_50 : decode cX5_begin 50 = .ok (.aload_n 0, 1) := by decide +kernel
theorem dX5_begin_51 : decode cX5_begin 51 = .ok (.getfield 22, 3) := by decide +kernel
theorem dX5_begin_54 : decode cX5_begin 54 = .ok (.iconst 0, 1) := by decide +kernel
theorem dX5_begin_55 : decode cX5_begin 55 = .ok (.invokestatic 57, 3) := by decide +kernel
theorem dX5_begin_58 : decode cX5_begin 58 = .ok (.aload_n 0, 1) := by decide +kernel
theorem dX5_begin_59 : decode cX5_begin 59 = .ok (.getfield 25, 3) := by decide +kernel
theorem dX5_begin_62 : decode cX5_begin 62 = .ok (.iconst 0, 1) := by decide +kernel
theorem dX5_begin_63 : decode cX5_begin 63 = .ok (.invokestatic 57, 3) := by decide +kernel
theorem dX5_begin_66 : decode cX5_begin 66 = .ok (.return_, 1) := by decide +kernel
theorem dX5_copy_0 : decode cX5_copy 0 = .ok (.aload_n 0, 1) := by decide +kernel
theorem dX5_copy_1 : decode cX5_copy 1 = .ok (.aload_n 1, 1) := by decide +kernel
theorem dX5_copy_2 : decode cX5_copy 2 = .ok (.getfield 44, 3) := by decide +kernel
theorem dX5_copy_5 : decode cX5_copy 5 = .ok (.putfield 44, 3) := by decide +kernel
theorem dX5_copy_8 : decode cX5_copy 8 = .ok (.aload_n 0, 1) := by decide +kernel
theorem dX5_copy_9 : decode cX5_copy 9 = .ok (.aload_n 1, 1) := by decide +kernel
theorem dX5_copy_10 : decode cX5_copy 10 = .ok (.getfield 48, 3) := by decide +kernel
theorem dX5_copy_13 : decode cX5_copy 13 = .ok (.putfield 48, 3) := by decide +kernel
theorem dX5_copy_16 : decode cX5_copy 16 = .ok (.aload_n 1, 1) := by decide +kernel
theorem dX5_copy_17 : decode cX5_copy 17 = .ok (.getfield 15, 3) := by decide +kernel
theorem dX5_copy_20 : decode cX5_copy 20 = .ok (.iconst 0, 1) := by decide +kernel
theorem dX5_copy_21 : decode cX5_copy 21 = .ok (.aload_n 0, 1) := by decide +kernel
theorem dX5_copy_22 : decode cX5_copy 22 = .ok (.getfield 15, 3) := by decide +kernel
theorem dX5_copy_25 : decode cX5_copy 25 = .ok (.iconst 0, 1) := by decide +kernel
theorem dX5_copy_26 : decode cX5_copy 26 = .ok (.iconst 5, 1) := by decide +kernel
theorem dX5_copy_27 : decode cX5_copy 27 = .ok (.invokestatic 63, 3) := by decide +kernel
theorem dX5_copy_30 : decode cX5_copy 30 = .ok (.aload_n 1, 1) := by decide +kernel
theorem dX5_copy_31 : decode cX5_copy 31 = .ok (.getfield 19, 3) := by decide +kernel
theorem dX5_copy_34 : decode cX5_copy 34 = .ok (.iconst 0, 1) := by decide +kernel
theorem dX5_copy_35 : decode cX5_copy 35 = .ok (.aload_n 0, 1) := by decide +kernel
theorem dX5_copy_36 : decode cX5_copy 36 = .ok (.getfield 19, 3) := by decide +kernel
theorem dX5_copy_39 : decode cX5_copy 39 = .ok (.iconst 0, 1) := by decide +kernel
theorem dX5_copy_40 : decode cX5_copy 40 = .ok (.iconst 5, 1) := by decide +kernel
theorem dX5_copy_41 : decode cX5_copy 41 = .ok (.invokestatic 63, 3) := by decide +kernel
theorem dX5_copy_44 : decode cX5_copy 44 = .ok (.aload_n 1, 1) := by decide +kernel
theorem dX5_copy_45 : decode cX5_copy 45 = .ok (.getfield 28, 3) := by decide +kernel
theorem dX5_copy_48 : decode cX5_copy 48 = .ok (.iconst 0, 1) := by decide +kernel
theorem dX5_copy_49 : decode cX5_copy 49 = .ok (.aload_n 0, 1) := by decide +kernel
theorem dX5_copy_50 : decode cX5_copy 50 = .ok (.getfield 28, 3) := by decide +kernel
theorem dX5_copy_53 : decode cX5_copy 53 = .ok (.iconst 0, 1) := by decide +kernel
theorem dX5_copy_54 : decode cX5_copy 54 = .ok (.iconst 4, 1) := by decide +kernel
theorem dX5_copy_55 : decode cX5_copy 55 = .ok (.invokestatic 63, 3) := by decide +kernel
theorem dX5_copy_58 : decode cX5_copy 58 = .ok (.aload_n 1, 1) := by decide +kernel
theorem dX5_copy_59 : decode cX5_copy 59 = .ok (.getfield 31, 3) := by decide +kernel
theorem dX5_copy_62 : decode cX5_copy 62 = .ok (.iconst 0, 1) := by decide +kernel
theorem dX5_copy_63 : decode cX5_copy 63 = .ok (.aload_n 0, 1) := by decide +kernel
theorem dX5_copy_64 : decode cX5_copy 64 = .ok (.getfield 31, 3) := by decide +kernel
theorem dX5_copy_67 : decode cX5_copy 67 = .ok (.iconst 0, 1) := by decide +kernel
theorem dX5_copy_68 : decode cX5_copy 68 = .ok (.iconst 4, 1) := by decide +kernel
theorem dX5_copy_69 : decode cX5_copy 69 = .ok (.invokestatic 63, 3) := by decide +kernel
theorem dX5_copy_72 : decode cX5_copy 72 = .ok (.aload_n 1, 1) := by decide +kernel
theorem dX5_copy_73 : decode cX5_copy 73 = .ok (.getfield 37, 3) := by decide +kernel
theorem dX5_copy_76 : decode cX5_copy 76 = .ok (.iconst 0, 1) := by decide +kernel
theorem dX5_copy_77 : decode cX5_copy 77 = .ok (.aload_n 0, 1) := by decide +kernel
theorem dX5_copy_78 : decode cX5_copy 78 = .ok (.getfield 37, 3) := by decide +kernel
theorem dX5_copy_81 : decode cX5_copy 81 = .ok (.iconst 0, 1) := by decide +kernel
theorem dX5_copy_82 : decode cX5_copy 82 = .ok (.iconst 4, 1) := by decide +kernel
theorem dX5_copy_83 : decode cX5_copy 83 = .ok (.invokestatic 63, 3) := by decide +kernel
theorem dX5_copy_86 : decode cX5_copy 86 = .ok (.aload_n 0, 1) := by decide +kernel
theorem dX5_copy_87 : decode cX5_copy 87 = .ok (.aload_n 1, 1) := by decide +kernel
theorem dX5_copy_88 : decode cX5_copy 88 = .ok (.invokevirtual 69, 3) := by decide +kernel
theorem dX5_copy_91 : decode cX5_copy 91 = .ok (.return_, 1) := by decide +kernel
theorem dX5_goBackTo_0 : decode cX5_goBackTo 0 = .ok (.aload_n 0, 1) := by decide +kernel
theorem dX5_goBackTo_1 : decode cX5_goBackTo 1 = .ok (.aload_n 1, 1) := by decide +kernel
theorem dX5_goBackTo_2 : decode cX5_goBackTo 2 = .ok (.getfield 51, 3) := by decide +kernel
theorem dX5_goBackTo_5 : decode cX5_goBackTo 5 = .ok (.putfield 51, 3) := by decide +kernel
theorem dX5_goBackTo_8 : decode cX5_goBackTo 8 = .ok (.aload_n 0, 1) := by decide +kernel
theorem dX5_goBackTo_9 : decode cX5_goBackTo 9 = .ok (.aload_n 1, 1) := by decide +kernel
theorem dX5_goBackTo_10 : decode cX5_goBackTo 10 = .ok (.getfield 54, 3) := by decide +kernel
theorem dX5_goBackTo_13 : decode cX5_goBackTo 13 = .ok (.putfield 54, 3) := by decide +kernel
theorem dX5_goBackTo_16 : decode cX5_goBackTo 16 = .ok (.aload_n 1, 1) := by decide +kernel
theorem dX5_goBackTo_17 : decode cX5_goBackTo 17 = .ok (.getfield 22, 3) := by decide +kernel
theorem dX5_goBackTo_20 : decode cX5_goBackTo 20 = .ok (.iconst 0, 1) := by decide +kernel
theorem dX5_goBackTo_21 : decode cX5_goBackTo 21 = .ok (.aload_n 0, 1) := by decide +kernel
theorem dX5_goBackTo_22 : decode cX5_goBackTo 22 = .ok (.getfield 22, 3) := by decide +kernel
theorem dX5_goBackTo_25 : decode cX5_goBackTo 25 = .ok (.iconst 0, 1) := by decide +kernel
theorem dX5_goBackTo_26 : decode cX5_goBackTo 26 = .ok (.bipush 120, 2) := by decide +kernel
theorem dX5_goBackTo_28 : decode cX5_goBackTo 28 = .ok (.invokestatic 63, 3) := by decide +kernel
theorem dX5_goBackTo_31 : decode cX5_goBackTo 31 = .ok (.aload_n 1, 1) := by decide +kernel
theorem dX5_goBackTo_32 : decode cX5_goBackTo 32 = .ok (.getfield 25, 3) := by decide +kernel
theorem dX5_goBackTo_35 : decode cX5_goBackTo 35 = .ok (.iconst 0, 1) := by decide +kernel
theorem dX5_goBackTo_36 : decode cX5_goBackTo 36 = .ok (.aload_n 0, 1) := by decide +kernel
theorem dX5_goBackTo_37 : decode cX5_goBackTo 37 = .ok (.getfield 25, 3) := by decide +kernel
theorem dX5_goBackTo_40 : decode cX5_goBackTo 40 = .ok (.iconst 0, 1) := by decide +kernel
theorem dX5_goBackTo_41 : decode cX5_goBackTo 41 = .ok (.iconst 5, 1) := by decide +kernel
theorem dX5_goBackTo_42 : decode cX5_goBackTo 42 = .ok (.invokestatic 63, 3) := by decide +kernel
theorem dX5_goBackTo_45 : decode cX5_goBackTo 45 = .ok (.aload_n 1, 1) := by decide +kernel
theorem dX5_goBackTo_46 : decode cX5_goBackTo 46 = .ok (.getfield 34, 3) := by decide +kernel
theorem dX5_goBackTo_49 : decode cX5_goBackTo 49 = .ok (.iconst 0, 1) := by decide +kernel
theorem dX5_goBackTo_50 : decode cX5_goBackTo 50 = .ok (.aload_n 0, 1) := by decide +kernel
theorem dX5_goBackTo_51 : decode cX5_goBackTo 51 = .ok (.getfield 34, 3) := by decide +kernel
theorem dX5_goBackTo_54 : decode cX5_goBackTo 54 = .ok (.iconst 0, 1) := by decide +kernel
theorem dX5_goBackTo_55 : decode cX5_goBackTo 55 = .ok (.aload_n 1, 1) := by decide +kernel
theorem dX5_goBackTo_56 : decode cX5_goBackTo 56 = .ok (.getfield 48, 3) := by decide +kernel
theorem dX5_goBackTo_59 : decode cX5_goBackTo 59 = .ok (.invokestatic 63, 3) := by decide +kernel
theorem dX5_goBackTo_62 : decode cX5_goBackTo 62 = .ok (.return_, 1) := by decide +kernel
theorem dX5_around_0 : decode cX5_around 0 = .ok (.aload_n 0, 1) := by decide +kernel
theorem dX5_around_1 : decode cX5_around 1 = .ok (.getfield 44, 3) := by decide +kernel
theorem dX5_around_4 : decode cX5_around 4 = .ok (.iconst 1, 1) := by decide +kernel
theorem dX5_around_5 : decode cX5_around 5 = .ok (.if_icmp .ge 7, 3) := by decide +kernel
theorem dX5_around_8 : decode cX5_around 8 = .ok (.iconst 0, 1) := by decide +kernel
theorem dX5_around_9 : decode cX5_around 9 = .ok (.goto 9, 3) := by decide +kernel
theorem dX5_around_12 : decode cX5_around 12 = .ok (.iload_n 1, 1) := by decide +kernel
theorem dX5_around_13 : decode cX5_around 13 = .ok (.aload_n 0, 1) := by decide +kernel
theorem dX5_around_14 : decode cX5_around 14 = .ok (.getfield 44, 3) := by decide +kernel
theorem dX5_around_17 : decode cX5_around 17 = .ok (.irem, 1) := by decide +kernel
theorem dX5_around_18 : decode cX5_around 18 = .ok (.ireturn, 1) := by decide +kernel
theorem dX5_lumpsAt_0 : decode cX5_lumpsAt 0 = .ok (.aload_n 0, 1) := by decide +kernel
theorem dX5_lumpsAt_1 : decode cX5_lumpsAt 1 = .ok (.getfield 22, 3) := by decide +kernel
theorem dX5_lumpsAt_4 : decode cX5_lumpsAt 4 = .ok (.aload_n 0, 1) := by decide +kernel
theorem dX5_lumpsAt_5 : decode cX5_lumpsAt 5 = .ok (.iload_n 1, 1) := by decide +kernel
theorem dX5_lumpsAt_6 : decode cX5_lumpsAt 6 = .ok (.iload_n 2, 1) := by decide +kernel
theorem dX5_lumpsAt_7 : decode cX5_lumpsAt 7 = .ok (.invokevirtual 73, 3) := by decide +kernel
theorem dX5_lumpsAt_10 : decode cX5_lumpsAt 10 = .ok (.iaload, 1) := by decide +kernel
theorem dX5_lumpsAt_11 : decode cX5_lumpsAt 11 = .ok (.ireturn, 1) := by decide +kernel
theorem dX5_setLumps_0 : decode cX5_setLumps 0 = .ok (.aload_n 0, 1) := by decide +kernel
theorem dX5_setLumps_1 : decode cX5_setLumps 1 = .ok (.getfield 22, 3) := by decide +kernel
theorem dX5_setLumps_4 : decode cX5_setLumps 4 = .ok (.aload_n 0, 1) := by decide +kernel
theorem dX5_setLumps_5 : decode cX5_setLumps 5 = .ok (.iload_n 1, 1) := by decide +kernel
theorem dX5_setLumps_6 : decode cX5_setLumps 6 = .ok (.iload_n 2, 1) := by decide +kernel
theorem dX5_setLumps_7 : decode cX5_setLumps 7 = .ok (.invokevirtual 73, 3) := by decide +kernel
theorem dX5_setLumps_10 : decode cX5_setLumps 10 = .ok (.iload_n 3, 1) := by decide +kernel
theorem dX5_setLumps_11 : decode cX5_setLumps 11 = .ok (.iastore, 1) := by decide +kernel
theorem dX5_setLumps_12 : decode cX5_setLumps 12 = .ok (.return_, 1) := by decide +kernel
theorem dX5_seat_0 : decode cX5_seat 0 = .ok (.iload_n 2, 1) := by decide +kernel
theorem dX5_seat_1 : decode cX5_seat 1 = .ok (.aload_n 0, 1) := by decide +kernel
theorem dX5_seat_2 : decode cX5_seat 2 = .ok (.getfield 25, 3) := by decide +kernel
theorem dX5_seat_5 : decode cX5_seat 5 = .ok (.iload_n 1, 1) := by decide +kernel
theorem dX5_seat_6 : decode cX5_seat 6 = .ok (.iaload, 1) := by decide +kernel
theorem dX5_seat_7 : decode cX5_seat 7 = .ok (.isub, 1) := by decide +kernel
theorem dX5_seat_8 : decode cX5_seat 8 = .ok (.istore_n 3, 1) := by decide +kernel
theorem dX5_seat_9 : decode cX5_seat 9 = .ok (.iload_n 1, 1) := by decide +kernel
theorem dX5_seat_10 : decode cX5_seat 10 = .ok (.bipush 24, 2) := by decide +kernel
theorem dX5_seat_12 : decode cX5_seat 12 = .ok (.imul, 1) := by decide +kernel
theorem dX5_seat_13 : decode cX5_seat 13 = .ok (.iload_n 3, 1) := by decide +kernel
theorem dX5_seat_14 : decode cX5_seat 14 = .ok (.ifCond .ge 12, 3) := by decide +kernel
theorem dX5_seat_17 : decode cX5_seat 17 = .ok (.iload_n 3, 1) := by decide +kernel
theorem dX5_seat_18 : decode cX5_seat 18 = .ok (.aload_n 0, 1) := by decide +kernel
theorem dX5_seat_19 : decode cX5_seat 19 = .ok (.getfield 44, 3) := by decide +kernel
theorem dX5_seat_22 : decode cX5_seat 22 = .ok (.iadd, 1) := by decide +kernel
theorem dX5_seat_23 : decode cX5_seat 23 = .ok (.goto 4, 3) := by decide +kernel
theorem dX5_seat_26 : decode cX5_seat 26 = .ok (.iload_n 3, 1) := by decide +kernel
theorem dX5_seat_27 : decode cX5_seat 27 = .ok (.iadd, 1) := by decide +kernel
theorem dX5_seat_28 : decode cX5_seat 28 = .ok (.ireturn, 1) := by decide +kernel
theorem dX5_lumpsIn_0 : decode cX5_lumpsIn 0 = .ok (.iconst 0, 1) := by decide +kernel
theorem dX5_lumpsIn_1 : decode cX5_lumpsIn 1 = .ok (.istore_n 2, 1) := by decide +kernel
theorem dX5_lumpsIn_2 : decode cX5_lumpsIn 2 = .ok (.iload_n 1, 1) := by decide +kernel
theorem dX5_lumpsIn_3 : decode cX5_lumpsIn 3 = .ok (.bipush 24, 2) := by decide +kernel
theorem dX5_lumpsIn_5 : decode cX5_lumpsIn 5 = .ok (.imul, 1) := by decide +kernel
theorem dX5_lumpsIn_6 : decode cX5_lumpsIn 6 = .ok (.istore_n 3, 1) := by decide +kernel
theorem dX5_lumpsIn_7 : decode cX5_lumpsIn 7 = .ok (.iload_n 3, 1) := by decide +kernel
theorem dX5_lumpsIn_8 : decode cX5_lumpsIn 8 = .ok (.istore 4, 2) := by decide +kernel
theorem dX5_lumpsIn_10 : decode cX5_lumpsIn 10 = .ok (.iload 4, 2) := by decide +kernel
theorem dX5_lumpsIn_12 : decode cX5_lumpsIn 12 = .ok (.iload_n 3, 1) := by decide +kernel
theorem dX5_lumpsIn_13 : decode cX5_lumpsIn 13 = .ok (.aload_n 0, 1) := by decide +kernel
theorem dX5_lumpsIn_14 : decode cX5_lumpsIn 14 = .ok (.getfield 44, 3) := by decide +kernel
theorem dX5_lumpsIn_17 : decode cX5_lumpsIn 17 = .ok (.iadd, 1) := by decide +kernel
theorem dX5_lumpsIn_18 : decode cX5_lumpsIn 18 = .ok (.if_icmp .ge 19, 3) := by decide +kernel
theorem dX5_lumpsIn_21 : decode cX5_lumpsIn 21 = .ok (.iload_n 2, 1) := by decide +kernel
theorem dX5_lumpsIn_22 : decode cX5_lumpsIn 22 = .ok (.aload_n 0, 1) := by decide +kernel
theorem dX5_lumpsIn_23 : decode cX5_lumpsIn 23 = .ok (.getfield 22, 3) := by decide +kernel
theorem dX5_lumpsIn_26 : decode cX5_lumpsIn 26 = .ok (.iload 4, 2) := by decide +kernel
theorem dX5_lumpsIn_28 : decode cX5_lumpsIn 28 = .ok (.iaload, 1) := by decide +kernel
theorem dX5_lumpsIn_29 : decode cX5_lumpsIn 29 = .ok (.iadd, 1) := by decide +kernel
theorem dX5_lumpsIn_30 : decode cX5_lumpsIn 30 = .ok (.istore_n 2, 1) := by decide +kernel
theorem dX5_lumpsIn_31 : decode cX5_lumpsIn 31 = .ok (.iinc 4 1, 3) := by decide +kernel
theorem dX5_lumpsIn_34 : decode cX5_lumpsIn 34 = .ok (.goto (-24), 3) := by decide +kernel
theorem dX5_lumpsIn_37 : decode cX5_lumpsIn 37 = .ok (.iload_n 2, 1) := by decide +kernel
theorem dX5_lumpsIn_38 : decode cX5_lumpsIn 38 = .ok (.ireturn, 1) := by decide +kernel
theorem dX5_lumpsInAll_0 : decode cX5_lumpsInAll 0 = .ok (.iconst 0, 1) := by decide +kernel
theorem dX5_lumpsInAll_1 : decode cX5_lumpsInAll 1 = .ok (.istore_n 1, 1) := by decide +kernel
theorem dX5_lumpsInAll_2 : decode cX5_lumpsInAll 2 = .ok (.iconst 0, 1) := by decide +kernel
theorem dX5_lumpsInAll_3 : decode cX5_lumpsInAll 3 = .ok (.istore_n 2, 1) := by decide +kernel
theorem dX5_lumpsInAll_4 : decode cX5_lumpsInAll 4 = .ok (.iload_n 2, 1) := by decide +kernel
theorem dX5_lumpsInAll_5 : decode cX5_lumpsInAll 5 = .ok (.iconst 5, 1) := by decide +kernel
theorem dX5_lumpsInAll_6 : decode cX5_lumpsInAll 6 = .ok (.if_icmp .ge 17, 3) := by decide +kernel
theorem dX5_lumpsInAll_9 : decode cX5_lumpsInAll 9 = .ok (.iload_n 1, 1) := by decide +kernel
theorem dX5_lumpsInAll_10 : decode cX5_lumpsInAll 10 = .ok (.aload_n 0, 1) := by decide +kernel
theorem dX5_lumpsInAll_11 : decode cX5_lumpsInAll 11 = .ok (.iload_n 2, 1) := by decide +kernel
theorem dX5_lumpsInAll_12 : decode cX5_lumpsInAll 12 = .ok (.invokevirtual 77, 3) := by decide +kernel
theorem dX5_lumpsInAll_15 : decode cX5_lumpsInAll 15 = .ok (.iadd, 1) := by decide +kernel
theorem dX5_lumpsInAll_16 : decode cX5_lumpsInAll 16 = .ok (.istore_n 1, 1) := by decide +kernel
theorem dX5_lumpsInAll_17 : decode cX5_lumpsInAll 17 = .ok (.iinc 2 1, 3) := by decide +kernel
theorem dX5_lumpsInAll_20 : decode cX5_lumpsInAll 20 = .ok (.goto (-16), 3) := by decide +kernel
theorem dX5_lumpsInAll_23 : decode cX5_lumpsInAll 23 = .ok (.iload_n 1, 1) := by decide +kernel
theorem dX5_lumpsInAll_24 : decode cX5_lumpsInAll 24 = .ok (.ireturn, 1) := by decide +kernel
theorem dX5_isClear_0 : decode cX5_isClear 0 = .ok (.iconst 0, 1) := by decide +kernel
theorem dX5_isClear_1 : decode cX5_isClear 1 = .ok (.istore_n 2, 1) := by decide +kernel
theorem dX5_isClear_2 : decode cX5_isClear 2 = .ok (.iload_n 2, 1) := by decide +kernel
theorem dX5_isClear_3 : decode cX5_isClear 3 = .ok (.iconst 5, 1) := by decide +kernel
theorem dX5_isClear_4 : decode cX5_isClear 4 = .ok (.if_icmp .ge 20, 3) := by decide +kernel
theorem dX5_isClear_7 : decode cX5_isClear 7 = .ok (.aload_n 0, 1) := by decide +kernel
theorem dX5_isClear_8 : decode cX5_isClear 8 = .ok (.iload_n 2, 1) := by decide +kernel
theorem dX5_isClear_9 : decode cX5_isClear 9 = .ok (.iload_n 1, 1) := by decide +kernel
theorem dX5_isClear_10 : decode cX5_isClear 10 = .ok (.invokevirtual 81, 3) := by decide +kernel
theorem dX5_isClear_13 : decode cX5_isClear 13 = .ok (.ifCond .le 5, 3) := by decide +kernel
theorem dX5_isClear_16 : decode cX5_isClear 16 = .ok (.iconst 0, 1) := by decide +kernel
theorem dX5_isClear_17 : decode cX5_isClear 17 = .ok (.ireturn, 1) := by decide +kernel
theorem dX5_isClear_18 : decode cX5_isClear 18 = .ok (.iinc 2 1, 3) := by decide +kernel
theorem dX5_isClear_21 : decode cX5_isClear 21 = .ok (.goto (-19), 3) := by decide +kernel
theorem dX5_isClear_24 : decode cX5_isClear 24 = .ok (.iconst 1, 1) := by decide +kernel
theorem dX5_isClear_25 : decode cX5_isClear 25 = .ok (.ireturn, 1) := by decide +kernel
theorem dX5_addMoon_0 : decode cX5_addMoon 0 = .ok (.aload_n 0, 1) := by decide +kernel
theorem dX5_addMoon_1 : decode cX5_addMoon 1 = .ok (.getfield 28, 3) := by decide +kernel
theorem dX5_addMoon_4 : decode cX5_addMoon 4 = .ok (.aload_n 0, 1) := by decide +kernel
theorem dX5_addMoon_5 : decode cX5_addMoon 5 = .ok (.getfield 48, 3) := by decide +kernel
theorem dX5_addMoon_8 : decode cX5_addMoon 8 = .ok (.iload_n 1, 1) := by decide +kernel
theorem dX5_addMoon_9 : decode cX5_addMoon 9 = .ok (.iastore, 1) := by decide +kernel
theorem dX5_addMoon_10 : decode cX5_addMoon 10 = .ok (.aload_n 0, 1) := by decide +kernel
theorem dX5_addMoon_11 : decode cX5_addMoon 11 = .ok (.getfield 31, 3) := by decide +kernel
theorem dX5_addMoon_14 : decode cX5_addMoon 14 = .ok (.aload_n 0, 1) := by decide +kernel
theorem dX5_addMoon_15 : decode cX5_addMoon 15 = .ok (.getfield 48, 3) := by decide +kernel
theorem dX5_addMoon_18 : decode cX5_addMoon 18 = .ok (.iload_n 2, 1) := by decide +kernel
theorem dX5_addMoon_19 : decode cX5_addMoon 19 = .ok (.iastore, 1) := by decide +kernel
theorem dX5_addMoon_20 : decode cX5_addMoon 20 = .ok (.aload_n 0, 1) := by decide +kernel
theorem dX5_addMoon_21 : decode cX5_addMoon 21 = .ok (.getfield 34, 3) := by decide +kernel
theorem dX5_addMoon_24 : decode cX5_addMoon 24 = .ok (.aload_n 0, 1) := by decide +kernel
theorem dX5_addMoon_25 : decode cX5_addMoon 25 = .ok (.getfield 48, 3) := by decide +kernel
theorem dX5_addMoon_28 : decode cX5_addMoon 28 = .ok (.iload_n 3, 1) := by decide +kernel
theorem dX5_addMoon_29 : decode cX5_addMoon 29 = .ok (.iastore, 1) := by decide +kernel
theorem dX5_addMoon_30 : decode cX5_addMoon 30 = .ok (.aload_n 0, 1) := by decide +kernel
theorem dX5_addMoon_31 : decode cX5_addMoon 31 = .ok (.getfield 37, 3) := by decide +kernel
theorem dX5_addMoon_34 : decode cX5_addMoon 34 = .ok (.aload_n 0, 1) := by decide +kernel
theorem dX5_addMoon_35 : decode cX5_addMoon 35 = .ok (.getfield 48, 3) := by decide +kernel
theorem dX5_addMoon_38 : decode cX5_addMoon 38 = .ok (.iload 4, 2) := by decide +kernel
theorem dX5_addMoon_40 : decode cX5_addMoon 40 = .ok (.iastore, 1) := by decide +kernel
theorem dX5_addMoon_41 : decode cX5_addMoon 41 = .ok (.aload_n 0, 1) := by decide +kernel
theorem dX5_addMoon_42 : decode cX5_addMoon 42 = .ok (.dup, 1) := by decide +kernel
theorem dX5_addMoon_43 : decode cX5_addMoon 43 = .ok (.getfield 48, 3) := by decide +kernel
theorem dX5_addMoon_46 : decode cX5_addMoon 46 = .ok (.iconst 1, 1) := by decide +kernel
theorem dX5_addMoon_47 : decode cX5_addMoon 47 = .ok (.iadd, 1) := by decide +kernel
theorem dX5_addMoon_48 : decode cX5_addMoon 48 = .ok (.putfield 48, 3) := by decide +kernel
theorem dX5_addMoon_51 : decode cX5_addMoon 51 = .ok (.aload_n 0, 1) := by decide +kernel
theorem dX5_addMoon_52 : decode cX5_addMoon 52 = .ok (.getfield 48, 3) := by decide +kernel
theorem dX5_addMoon_55 : decode cX5_addMoon 55 = .ok (.iconst 1, 1) := by decide +kernel
theorem dX5_addMoon_56 : decode cX5_addMoon 56 = .ok (.isub, 1) := by decide +kernel
theorem dX5_addMoon_57 : decode cX5_addMoon 57 = .ok (.ireturn, 1) := by decide +kernel
theorem dX5_aboutMoon_0 : decode cX5_aboutMoon 0 = .ok (.iload_n 2, 1) := by decide +kernel
theorem dX5_aboutMoon_1 : decode cX5_aboutMoon 1 = .ok (.tableswitch 48 0 2 #[27, 34, 41], 27) := by decide +kernel
theorem dX5_aboutMoon_28 : decode cX5_aboutMoon 28 = .ok (.aload_n 0, 1) := by decide +kernel
theorem dX5_aboutMoon_29 : decode cX5_aboutMoon 29 = .ok (.getfield 28, 3) := by decide +kernel
theorem dX5_aboutMoon_32 : decode cX5_aboutMoon 32 = .ok (.iload_n 1, 1) := by decide +kernel
theorem dX5_aboutMoon_33 : decode cX5_aboutMoon 33 = .ok (.iaload, 1) := by decide +kernel
theorem dX5_aboutMoon_34 : decode cX5_aboutMoon 34 = .ok (.ireturn, 1) := by decide +kernel
theorem dX5_aboutMoon_35 : decode cX5_aboutMoon 35 = .ok (.aload_n 0, 1) := by decide +kernel
theorem dX5_aboutMoon_36 : decode cX5_aboutMoon 36 = .ok (.getfield 31, 3) := by decide +kernel
theorem dX5_aboutMoon_39 : decode cX5_aboutMoon 39 = .ok (.iload_n 1, 1) := by decide +kernel
theorem dX5_aboutMoon_40 : decode cX5_aboutMoon 40 = .ok (.iaload, 1) := by decide +kernel
theorem dX5_aboutMoon_41 : decode cX5_aboutMoon 41 = .ok (.ireturn, 1) := by decide +kernel
theorem dX5_aboutMoon_42 : decode cX5_aboutMoon 42 = .ok (.aload_n 0, 1) := by decide +kernel
theorem dX5_aboutMoon_43 : decode cX5_aboutMoon 43 = .ok (.getfield 34, 3) := by decide +kernel
theorem dX5_aboutMoon_46 : decode cX5_aboutMoon 46 = .ok (.iload_n 1, 1) := by decide +kernel
theorem dX5_aboutMoon_47 : decode cX5_aboutMoon 47 = .ok (.iaload, 1) := by decide +kernel
theorem dX5_aboutMoon_48 : decode cX5_aboutMoon 48 = .ok (.ireturn, 1) := by decide +kernel
theorem dX5_aboutMoon_49 : decode cX5_aboutMoon 49 = .ok (.aload_n 0, 1) := by decide +kernel
theorem dX5_aboutMoon_50 : decode cX5_aboutMoon 50 = .ok (.getfield 37, 3) := by decide +kernel
theorem dX5_aboutMoon_53 : decode cX5_aboutMoon 53 = .ok (.iload_n 1, 1) := by decide +kernel
theorem dX5_aboutMoon_54 : decode cX5_aboutMoon 54 = .ok (.iaload, 1) := by decide +kernel
theorem dX5_aboutMoon_55 : decode cX5_aboutMoon 55 = .ok (.ireturn, 1) := by decide +kernel
theorem dX5_moveMoon_0 : decode cX5_moveMoon 0 = .ok (.aload_n 0, 1) := by decide +kernel
theorem dX5_moveMoon_1 : decode cX5_moveMoon 1 = .ok (.getfield 34, 3) := by decide +kernel
theorem dX5_moveMoon_4 : decode cX5_moveMoon 4 = .ok (.iload_n 1, 1) := by decide +kernel
theorem dX5_moveMoon_5 : decode cX5_moveMoon 5 = .ok (.aload_n 0, 1) := by decide +kernel
theorem dX5_moveMoon_6 : decode cX5_moveMoon 6 = .ok (.aload_n 0, 1) := by decide +kernel
theorem dX5_moveMoon_7 : decode cX5_moveMoon 7 = .ok (.getfield 34, 3) := by decide +kernel
theorem dX5_moveMoon_10 : decode cX5_moveMoon 10 = .ok (.iload_n 1, 1) := by decide +kernel
theorem dX5_moveMoon_11 : decode cX5_moveMoon 11 = .ok (.iaload, 1) := by decide +kernel
theorem dX5_moveMoon_12 : decode cX5_moveMoon 12 = .ok (.iload_n 2, 1) := by decide +kernel
theorem dX5_moveMoon_13 : decode cX5_moveMoon 13 = .ok (.iadd, 1) := by decide +kernel
theorem dX5_moveMoon_14 : decode cX5_moveMoon 14 = .ok (.invokevirtual 84, 3) := by decide +kernel
theorem dX5_moveMoon_17 : decode cX5_moveMoon 17 = .ok (.iastore, 1) := by decide +kernel
theorem dX5_moveMoon_18 : decode cX5_moveMoon 18 = .ok (.return_, 1) := by decide +kernel
theorem dX5_keepMoons_0 : decode cX5_keepMoons 0 = .ok (.aload_n 0, 1) := by decide +kernel
theorem dX5_keepMoons_1 : decode cX5_keepMoons 1 = .ok (.getfield 48, 3) := by decide +kernel
theorem dX5_keepMoons_4 : decode cX5_keepMoons 4 = .ok (.istore_n 2, 1) := by decide +kernel
theorem dX5_keepMoons_5 : decode cX5_keepMoons 5 = .ok (.aload_n 0, 1) := by decide +kernel
theorem dX5_keepMoons_6 : decode cX5_keepMoons 6 = .ok (.iconst 0, 1) := by decide +kernel
theorem dX5_keepMoons_7 : decode cX5_keepMoons 7 = .ok (.putfield 48, 3) := by decide +kernel
theorem dX5_keepMoons_10 : decode cX5_keepMoons 10 = .ok (.iconst 0, 1) := by decide +kernel
theorem dX5_keepMoons_11 : decode cX5_keepMoons 11 = .ok (.istore_n 3, 1) := by decide +kernel
theorem dX5_keepMoons_12 : decode cX5_keepMoons 12 = .ok (.iload_n 3, 1) := by decide +kernel
theorem dX5_keepMoons_13 : decode cX5_keepMoons 13 = .ok (.iload_n 2, 1) := by decide +kernel
theorem dX5_keepMoons_14 : decode cX5_keepMoons 14 = .ok (.if_icmp .ge 47, 3) := by decide +kernel
theorem dX5_keepMoons_17 : decode cX5_keepMoons 17 = .ok (.iload_n 1, 1) := by decide +kernel
theorem dX5_keepMoons_18 : decode cX5_keepMoons 18 = .ok (.iload_n 3, 1) := by decide +kernel
theorem dX5_keepMoons_19 : decode cX5_keepMoons 19 = .ok (.ishr, 1) := by decide +kernel
theorem dX5_keepMoons_20 : decode cX5_keepMoons 20 = .ok (.iconst 1, 1) := by decide +kernel
theorem dX5_keepMoons_21 : decode cX5_keepMoons 21 = .ok (.iand, 1) := by decide +kernel
theorem dX5_keepMoons_22 : decode cX5_keepMoons 22 = .ok (.iconst 1, 1) := by decide +kernel
theorem dX5_keepMoons_23 : decode cX5_keepMoons 23 = .ok (.if_icmp .ne 32, 3) := by decide +kernel
theorem dX5_keepMoons_26 : decode cX5_keepMoons 26 = .ok (.aload_n 0, 1) := by decide +kernel
theorem dX5_keepMoons_27 : decode cX5_keepMoons 27 = .ok (.aload_n 0, 1) := by decide +kernel
theorem dX5_keepMoons_28 : decode cX5_keepMoons 28 = .ok (.getfield 28, 3) := by decide +kernel
theorem dX5_keepMoons_31 : decode cX5_keepMoons 31 = .ok (.iload_n 3, 1) := by decide +kernel
theorem dX5_keepMoons_32 : decode cX5_keepMoons 32 = .ok (.iaload, 1) := by decide +kernel
theorem dX5_keepMoons_33 : decode cX5_keepMoons 33 = .ok (.aload_n 0, 1) := by decide +kernel
theorem dX5_keepMoons_34 : decode cX5_keepMoons 34 = .ok (.getfield 31, 3) := by decide +kernel
theorem dX5_keepMoons_37 : decode cX5_keepMoons 37 = .ok (.iload_n 3, 1) := by decide +kernel
theorem dX5_keepMoons_38 : decode cX5_keepMoons 38 = .ok (.iaload, 1) := by decide +kernel
theorem dX5_keepMoons_39 : decode cX5_keepMoons 39 = .ok (.aload_n 0, 1) := by decide +kernel
theorem dX5_keepMoons_40 : decode cX5_keepMoons 40 = .ok (.getfield 34, 3) := by decide +kernel
theorem dX5_keepMoons_43 : decode cX5_keepMoons 43 = .ok (.iload_n 3, 1) := by decide +kernel
theorem dX5_keepMoons_44 : decode cX5_keepMoons 44 = .ok (.iaload, 1) := by decide +kernel
theorem dX5_keepMoons_45 : decode cX5_keepMoons 45 = .ok (.aload_n 0, 1) := by decide +kernel
theorem dX5_keepMoons_46 : decode cX5_keepMoons 46 = .ok (.getfield 37, 3) := by decide +kernel
theorem dX5_keepMoons_49 : decode cX5_keepMoons 49 = .ok (.iload_n 3, 1) := by decide +kernel
theorem dX5_keepMoons_50 : decode cX5_keepMoons 50 = .ok (.iaload, 1) := by decide +kernel
theorem dX5_keepMoons_51 : decode cX5_keepMoons 51 = .ok (.invokevirtual 87, 3) := by decide +kernel
theorem dX5_keepMoons_54 : decode cX5_keepMoons 54 = .ok (.pop, 1) := by decide +kernel
theorem dX5_keepMoons_55 : decode cX5_keepMoons 55 = .ok (.iinc 3 1, 3) := by decide +kernel
theorem dX5_keepMoons_58 : decode cX5_keepMoons 58 = .ok (.goto (-46), 3) := by decide +kernel
theorem dX5_keepMoons_61 : decode cX5_keepMoons 61 = .ok (.return_, 1) := by decide +kernel
theorem dX5_goOn_0 : decode cX5_goOn 0 = .ok (.aload_n 0, 1) := by decide +kernel
theorem dX5_goOn_1 : decode cX5_goOn 1 = .ok (.dup, 1) := by decide +kernel
theorem dX5_goOn_2 : decode cX5_goOn 2 = .ok (.getfield 51, 3) := by decide +kernel
theorem dX5_goOn_5 : decode cX5_goOn 5 = .ok (.iconst 1, 1) := by decide +kernel
theorem dX5_goOn_6 : decode cX5_goOn 6 = .ok (.iadd, 1) := by decide +kernel
theorem dX5_goOn_7 : decode cX5_goOn 7 = .ok (.putfield 51, 3) := by decide +kernel
theorem dX5_goOn_10 : decode cX5_goOn 10 = .ok (.iconst 0, 1) := by decide +kernel
theorem dX5_goOn_11 : decode cX5_goOn 11 = .ok (.istore_n 1, 1) := by decide +kernel
theorem dX5_goOn_12 : decode cX5_goOn 12 = .ok (.iload_n 1, 1) := by decide +kernel
theorem dX5_goOn_13 : decode cX5_goOn 13 = .ok (.iconst 5, 1) := by decide +kernel
theorem dX5_goOn_14 : decode cX5_goOn 14 = .ok (.if_icmp .ge 32, 3) := by decide +kernel
theorem dX5_goOn_17 : decode cX5_goOn 17 = .ok (.aload_n 0, 1) := by decide +kernel
theorem dX5_goOn_18 : decode cX5_goOn 18 = .ok (.getfield 25, 3) := by decide +kernel
theorem dX5_goOn_21 : decode cX5_goOn 21 = .ok (.iload_n 1, 1) := by decide +kernel
theorem dX5_goOn_22 : decode cX5_goOn 22 = .ok (.aload_n 0, 1) := by decide +kernel
theorem dX5_goOn_23 : decode cX5_goOn 23 = .ok (.aload_n 0, 1) := by decide +kernel
theorem dX5_goOn_24 : decode cX5_goOn 24 = .ok (.getfield 25, 3) := by decide +kernel
theorem dX5_goOn_27 : decode cX5_goOn 27 = .ok (.iload_n 1, 1) := by decide +kernel
theorem dX5_goOn_28 : decode cX5_goOn 28 = .ok (.iaload, 1) := by decide +kernel
theorem dX5_goOn_29 : decode cX5_goOn 29 = .ok (.aload_n 0, 1) := by decide +kernel
theorem dX5_goOn_30 : decode cX5_goOn 30 = .ok (.getfield 15, 3) := by decide +kernel
theorem dX5_goOn_33 : decode cX5_goOn 33 = .ok (.iload_n 1, 1) := by decide +kernel
theorem dX5_goOn_34 : decode cX5_goOn 34 = .ok (.iaload, 1) := by decide +kernel
theorem dX5_goOn_35 : decode cX5_goOn 35 = .ok (.iadd, 1) := by decide +kernel
theorem dX5_goOn_36 : decode cX5_goOn 36 = .ok (.invokevirtual 84, 3) := by decide +kernel
theorem dX5_goOn_39 : decode cX5_goOn 39 = .ok (.iastore, 1) := by decide +kernel
theorem dX5_goOn_40 : decode cX5_goOn 40 = .ok (.iinc 1 1, 3) := by decide +kernel
theorem dX5_goOn_43 : decode cX5_goOn 43 = .ok (.goto (-31), 3) := by decide +kernel
theorem dX5_goOn_46 : decode cX5_goOn 46 = .ok (.iconst 0, 1) := by decide +kernel
theorem dX5_goOn_47 : decode cX5_goOn 47 = .ok (.istore_n 1, 1) := by decide +kernel
theorem dX5_goOn_48 : decode cX5_goOn 48 = .ok (.iload_n 1, 1) := by decide +kernel
theorem dX5_goOn_49 : decode cX5_goOn 49 = .ok (.aload_n 0, 1) := by decide +kernel
theorem dX5_goOn_50 : decode cX5_goOn 50 = .ok (.getfield 48, 3) := by decide +kernel
theorem dX5_goOn_53 : decode cX5_goOn 53 = .ok (.if_icmp .ge 20, 3) := by decide +kernel
theorem dX5_goOn_56 : decode cX5_goOn 56 = .ok (.aload_n 0, 1) := by decide +kernel
theorem dX5_goOn_57 : decode cX5_goOn 57 = .ok (.iload_n 1, 1) := by decide +kernel
theorem dX5_goOn_58 : decode cX5_goOn 58 = .ok (.aload_n 0, 1) := by decide +kernel
theorem dX5_goOn_59 : decode cX5_goOn 59 = .ok (.getfield 37, 3) := by decide +kernel
theorem dX5_goOn_62 : decode cX5_goOn 62 = .ok (.iload_n 1, 1) := by decide +kernel
theorem dX5_goOn_63 : decode cX5_goOn 63 = .ok (.iaload, 1) := by decide +kernel
theorem dX5_goOn_64 : decode cX5_goOn 64 = .ok (.invokevirtual 91, 3) := by decide +kernel
theorem dX5_goOn_67 : decode cX5_goOn 67 = .ok (.iinc 1 1, 3) := by decide +kernel
theorem dX5_goOn_70 : decode cX5_goOn 70 = .ok (.goto (-22), 3) := by decide +kernel
theorem dX5_goOn_73 : decode cX5_goOn 73 = .ok (.iconst 0, 1) := by decide +kernel
theorem dX5_goOn_74 : decode cX5_goOn 74 = .ok (.istore_n 1, 1) := by decide +kernel
theorem dX5_goOn_75 : decode cX5_goOn 75 = .ok (.iconst 0, 1) := by decide +kernel
theorem dX5_goOn_76 : decode cX5_goOn 76 = .ok (.istore_n 2, 1) := by decide +kernel
theorem dX5_goOn_77 : decode cX5_goOn 77 = .ok (.iload_n 2, 1) := by decide +kernel
theorem dX5_goOn_78 : decode cX5_goOn 78 = .ok (.aload_n 0, 1) := by decide +kernel
theorem dX5_goOn_79 : decode cX5_goOn 79 = .ok (.getfield 48, 3) := by decide +kernel
theorem dX5_goOn_82 : decode cX5_goOn 82 = .ok (.if_icmp .ge 17, 3) := by decide +kernel
theorem dX5_goOn_85 : decode cX5_goOn 85 = .ok (.iload_n 1, 1) := by decide +kernel
theorem dX5_goOn_86 : decode cX5_goOn 86 = .ok (.aload_n 0, 1) := by decide +kernel
theorem dX5_goOn_87 : decode cX5_goOn 87 = .ok (.iload_n 2, 1) := by decide +kernel
theorem dX5_goOn_88 : decode cX5_goOn 88 = .ok (.invokevirtual 95, 3) := by decide +kernel
theorem dX5_goOn_91 : decode cX5_goOn 91 = .ok (.iadd, 1) := by decide +kernel
theorem dX5_goOn_92 : decode cX5_goOn 92 = .ok (.istore_n 1, 1) := by decide +kernel
theorem dX5_goOn_93 : decode cX5_goOn 93 = .ok (.iinc 2 1, 3) := by decide +kernel
theorem dX5_goOn_96 : decode cX5_goOn 96 = .ok (.goto (-19), 3) := by decide +kernel
theorem dX5_goOn_99 : decode cX5_goOn 99 = .ok (.aload_n 0, 1) := by decide +kernel
theorem dX5_goOn_100 : decode cX5_goOn 100 = .ok (.dup, 1) := by decide +kernel
theorem dX5_goOn_101 : decode cX5_goOn 101 = .ok (.getfield 54, 3) := by decide +kernel
theorem dX5_goOn_104 : decode cX5_goOn 104 = .ok (.iload_n 1, 1) := by decide +kernel
theorem dX5_goOn_105 : decode cX5_goOn 105 = .ok (.iadd, 1) := by decide +kernel
theorem dX5_goOn_106 : decode cX5_goOn 106 = .ok (.putfield 54, 3) := by decide +kernel
theorem dX5_goOn_109 : decode cX5_goOn 109 = .ok (.iload_n 1, 1) := by decide +kernel
theorem dX5_goOn_110 : decode cX5_goOn 110 = .ok (.ireturn, 1) := by decide +kernel
theorem dX5_goOnBy_0 : decode cX5_goOnBy 0 = .ok (.iconst 0, 1) := by decide +kernel
theorem dX5_goOnBy_1 : decode cX5_goOnBy 1 = .ok (.istore_n 2, 1) := by decide +kernel
theorem dX5_goOnBy_2 : decode cX5_goOnBy 2 = .ok (.iconst 0, 1) := by decide +kernel
theorem dX5_goOnBy_3 : decode cX5_goOnBy 3 = .ok (.istore_n 3, 1) := by decide +kernel
theorem dX5_goOnBy_4 : decode cX5_goOnBy 4 = .ok (.iload_n 3, 1) := by decide +kernel
theorem dX5_goOnBy_5 : decode cX5_goOnBy 5 = .ok (.iload_n 1, 1) := by decide +kernel
theorem dX5_goOnBy_6 : decode cX5_goOnBy 6 = .ok (.if_icmp .ge 16, 3) := by decide +kernel
theorem dX5_goOnBy_9 : decode cX5_goOnBy 9 = .ok (.iload_n 2, 1) := by decide +kernel
theorem dX5_goOnBy_10 : decode cX5_goOnBy 10 = .ok (.aload_n 0, 1) := by decide +kernel
theorem dX5_goOnBy_11 : decode cX5_goOnBy 11 = .ok (.invokevirtual 98, 3) := by decide +kernel
theorem dX5_goOnBy_14 : decode cX5_goOnBy 14 = .ok (.iadd, 1) := by decide +kernel
theorem dX5_goOnBy_15 : decode cX5_goOnBy 15 = .ok (.istore_n 2, 1) := by decide +kernel
theorem dX5_goOnBy_16 : decode cX5_goOnBy 16 = .ok (.iinc 3 1, 3) := by decide +kernel
theorem dX5_goOnBy_19 : decode cX5_goOnBy 19 = .ok (.goto (-15), 3) := by decide +kernel
theorem dX5_goOnBy_22 : decode cX5_goOnBy 22 = .ok (.iload_n 2, 1) := by decide +kernel
theorem dX5_goOnBy_23 : decode cX5_goOnBy 23 = .ok (.ireturn, 1) := by decide +kernel
theorem dX5_passBy_0 : decode cX5_passBy 0 = .ok (.aload_n 0, 1) := by decide +kernel
theorem dX5_passBy_1 : decode cX5_passBy 1 = .ok (.getfield 9, 3) := by decide +kernel
theorem dX5_passBy_4 : decode cX5_passBy 4 = .ok (.aload_n 0, 1) := by decide +kernel
theorem dX5_passBy_5 : decode cX5_passBy 5 = .ok (.getfield 28, 3) := by decide +kernel
theorem dX5_passBy_8 : decode cX5_passBy 8 = .ok (.iload_n 1, 1) := by decide +kernel
theorem dX5_passBy_9 : decode cX5_passBy 9 = .ok (.iaload, 1) := by decide +kernel
theorem dX5_passBy_10 : decode cX5_passBy 10 = .ok (.aaload, 1) := by decide +kernel
theorem dX5_passBy_11 : decode cX5_passBy 11 = .ok (.astore_n 2, 1) := by decide +kernel
theorem dX5_passBy_12 : decode cX5_passBy 12 = .ok (.aload_n 2, 1) := by decide +kernel
theorem dX5_passBy_13 : decode cX5_passBy 13 = .ok (.aload_n 0, 1) := by decide +kernel
theorem dX5_passBy_14 : decode cX5_passBy 14 = .ok (.getfield 51, 3) := by decide +kernel
theorem dX5_passBy_17 : decode cX5_passBy 17 = .ok (.invokevirtual 102, 3) := by decide +kernel
theorem dX5_passBy_20 : decode cX5_passBy 20 = .ok (.ifCond .ne 5, 3) := by decide +kernel
theorem dX5_passBy_23 : decode cX5_passBy 23 = .ok (.iconst 0, 1) := by decide +kernel
theorem dX5_passBy_24 : decode cX5_passBy 24 = .ok (.ireturn, 1) := by decide +kernel
theorem dX5_passBy_25 : decode cX5_passBy 25 = .ok (.aload_n 0, 1) := by decide +kernel
theorem dX5_passBy_26 : decode cX5_passBy 26 = .ok (.getfield 31, 3) := by decide +kernel
theorem dX5_passBy_29 : decode cX5_passBy 29 = .ok (.iload_n 1, 1) := by decide +kernel
theorem dX5_passBy_30 : decode cX5_passBy 30 = .ok (.iaload, 1) := by decide +kernel
theorem dX5_passBy_31 : decode cX5_passBy 31 = .ok (.istore_n 3, 1) := by decide +kernel
theorem dX5_passBy_32 : decode cX5_passBy 32 = .ok (.aload_n 2, 1) := by decide +kernel
theorem dX5_passBy_33 : decode cX5_passBy 33 = .ok (.invokevirtual 108, 3) := by decide +kernel
theorem dX5_passBy_36 : decode cX5_passBy 36 = .ok (.istore 4, 2) := by decide +kernel
theorem dX5_passBy_38 : decode cX5_passBy 38 = .ok (.aload_n 2, 1) := by decide +kernel
theorem dX5_passBy_39 : decode cX5_passBy 39 = .ok (.invokevirtual 111, 3) := by decide +kernel
theorem dX5_passBy_42 : decode cX5_passBy 42 = .ok (.istore 5, 2) := by decide +kernel
theorem dX5_passBy_44 : decode cX5_passBy 44 = .ok (.iconst 0, 1) := by decide +kernel
theorem dX5_passBy_45 : decode cX5_passBy 45 = .ok (.istore 6, 2) := by decide +kernel
theorem dX5_passBy_47 : decode cX5_passBy 47 = .ok (.iload 5, 2) := by decide +kernel
theorem dX5_passBy_49 : decode cX5_passBy 49 = .ok (.ineg, 1) := by decide +kernel
theorem dX5_passBy_50 : decode cX5_passBy 50 = .ok (.istore 7, 2) := by decide +kernel
theorem dX5_passBy_52 : decode cX5_passBy 52 = .ok (.iload 7, 2) := by decide +kernel
theorem dX5_passBy_54 : decode cX5_passBy 54 = .ok (.iload 5, 2) := by decide +kernel
theorem dX5_passBy_56 : decode cX5_passBy 56 = .ok (.if_icmp .gt 81, 3) := by decide +kernel
theorem dX5_passBy_59 : decode cX5_passBy 59 = .ok (.aload_n 0, 1) := by decide +kernel
theorem dX5_passBy_60 : decode cX5_passBy 60 = .ok (.aload_n 0, 1) := by decide +kernel
theorem dX5_passBy_61 : decode cX5_passBy 61 = .ok (.getfield 34, 3) := by decide +kernel
theorem dX5_passBy_64 : decode cX5_passBy 64 = .ok (.iload_n 1, 1) := by decide +kernel
theorem dX5_passBy_65 : decode cX5_passBy 65 = .ok (.iaload, 1) := by decide +kernel
theorem dX5_passBy_66 : decode cX5_passBy 66 = .ok (.iload 7, 2) := by decide +kernel
theorem dX5_passBy_68 : decode cX5_passBy 68 = .ok (.iadd, 1) := by decide +kernel
theorem dX5_passBy_69 : decode cX5_passBy 69 = .ok (.aload_n 0, 1) := by decide +kernel
theorem dX5_passBy_70 : decode cX5_passBy 70 = .ok (.getfield 44, 3) := by decide +kernel
theorem dX5_passBy_73 : decode cX5_passBy 73 = .ok (.iadd, 1) := by decide +kernel
theorem dX5_passBy_74 : decode cX5_passBy 74 = .ok (.invokevirtual 84, 3) := by decide +kernel
theorem dX5_passBy_77 : decode cX5_passBy 77 = .ok (.istore 8, 2) := by decide +kernel
theorem dX5_passBy_79 : decode cX5_passBy 79 = .ok (.aload_n 0, 1) := by decide +kernel
theorem dX5_passBy_80 : decode cX5_passBy 80 = .ok (.iload_n 3, 1) := by decide +kernel
theorem dX5_passBy_81 : decode cX5_passBy 81 = .ok (.iload 8, 2) := by decide +kernel
theorem dX5_passBy_83 : decode cX5_passBy 83 = .ok (.invokevirtual 114, 3) := by decide +kernel
theorem dX5_passBy_86 : decode cX5_passBy 86 = .ok (.istore 9, 2) := by decide +kernel
theorem dX5_passBy_88 : decode cX5_passBy 88 = .ok (.aload_n 0, 1) := by decide +kernel
theorem dX5_passBy_89 : decode cX5_passBy 89 = .ok (.iload_n 3, 1) := by decide +kernel
theorem dX5_passBy_90 : decode cX5_passBy 90 = .ok (.iconst 1, 1) := by decide +kernel
theorem dX5_passBy_91 : decode cX5_passBy 91 = .ok (.isub, 1) := by decide +kernel
theorem dX5_passBy_92 : decode cX5_passBy 92 = .ok (.iload 8, 2) := by decide +kernel
theorem dX5_passBy_94 : decode cX5_passBy 94 = .ok (.invokevirtual 114, 3) := by decide +kernel
theorem dX5_passBy_97 : decode cX5_passBy 97 = .ok (.istore 10, 2) := by decide +kernel
theorem dX5_passBy_99 : decode cX5_passBy 99 = .ok (.iload 6, 2) := by decide +kernel
theorem dX5_passBy_101 : decode cX5_passBy 101 = .ok (.aload_n 0, 1) := by decide +kernel
theorem dX5_passBy_102 : decode cX5_passBy 102 = .ok (.iload_n 3, 1) := by decide +kernel
theorem dX5_passBy_103 : decode cX5_passBy 103 = .ok (.iload 4, 2) := by decide +kernel
theorem dX5_passBy_105 : decode cX5_passBy 105 = .ok (.iadd, 1) := by decide +kernel
theorem dX5_passBy_106 : decode cX5_passBy 106 = .ok (.iload 8, 2) := by decide +kernel
theorem dX5_passBy_108 : decode cX5_passBy 108 = .ok (.iload 9, 2) := by decide +kernel
theorem dX5_passBy_110 : decode cX5_passBy 110 = .ok (.invokevirtual 117, 3) := by decide +kernel
theorem dX5_passBy_113 : decode cX5_passBy 113 = .ok (.aload_n 0, 1) := by decide +kernel
theorem dX5_passBy_114 : decode cX5_passBy 114 = .ok (.iload_n 3, 1) := by decide +kernel
theorem dX5_passBy_115 : decode cX5_passBy 115 = .ok (.iconst 1, 1) := by decide +kernel
theorem dX5_passBy_116 : decode cX5_passBy 116 = .ok (.isub, 1) := by decide +kernel
theorem dX5_passBy_117 : decode cX5_passBy 117 = .ok (.iload 4, 2) := by decide +kernel
theorem dX5_passBy_119 : decode cX5_passBy 119 = .ok (.isub, 1) := by decide +kernel
theorem dX5_passBy_120 : decode cX5_passBy 120 = .ok (.iload 8, 2) := by decide +kernel
theorem dX5_passBy_122 : decode cX5_passBy 122 = .ok (.iload 10, 2) := by decide +kernel
theorem dX5_passBy_124 : decode cX5_passBy 124 = .ok (.invokevirtual 117, 3) := by decide +kernel
theorem dX5_passBy_127 : decode cX5_passBy 127 = .ok (.iadd, 1) := by decide +kernel
theorem dX5_passBy_128 : decode cX5_passBy 128 = .ok (.iadd, 1) := by decide +kernel
theorem dX5_passBy_129 : decode cX5_passBy 129 = .ok (.istore 6, 2) := by decide +kernel
theorem dX5_passBy_131 : decode cX5_passBy 131 = .ok (.iinc 7 1, 3) := by decide +kernel
theorem dX5_passBy_134 : decode cX5_passBy 134 = .ok (.goto (-82), 3) := by decide +kernel
theorem dX5_passBy_137 : decode cX5_passBy 137 = .ok (.iload 6, 2) := by decide +kernel
theorem dX5_passBy_139 : decode cX5_passBy 139 = .ok (.ireturn, 1) := by decide +kernel
theorem dX5_takeAll_0 : decode cX5_takeAll 0 = .ok (.iload_n 1, 1) := by decide +kernel
theorem dX5_takeAll_1 : decode cX5_takeAll 1 = .ok (.invokestatic 121, 3) := by decide +kernel
theorem dX5_takeAll_4 : decode cX5_takeAll 4 = .ok (.ifCond .ne 5, 3) := by decide +kernel
theorem dX5_takeAll_7 : decode cX5_takeAll 7 = .ok (.iconst 0, 1) := by decide +kernel
theorem dX5_takeAll_8 : decode cX5_takeAll 8 = .ok (.ireturn, 1) := by decide +kernel
theorem dX5_takeAll_9 : decode cX5_takeAll 9 = .ok (.aload_n 0, 1) := by decide +kernel
theorem dX5_takeAll_10 : decode cX5_takeAll 10 = .ok (.iload_n 1, 1) := by decide +kernel
theorem dX5_takeAll_11 : decode cX5_takeAll 11 = .ok (.iload_n 2, 1) := by decide +kernel
theorem dX5_takeAll_12 : decode cX5_takeAll 12 = .ok (.invokevirtual 73, 3) := by decide +kernel
theorem dX5_takeAll_15 : decode cX5_takeAll 15 = .ok (.istore_n 3, 1) := by decide +kernel
theorem dX5_takeAll_16 : decode cX5_takeAll 16 = .ok (.aload_n 0, 1) := by decide +kernel
theorem dX5_takeAll_17 : decode cX5_takeAll 17 = .ok (.getfield 22, 3) := by decide +kernel
theorem dX5_takeAll_20 : decode cX5_takeAll 20 = .ok (.iload_n 3, 1) := by decide +kernel
theorem dX5_takeAll_21 : decode cX5_takeAll 21 = .ok (.iaload, 1) := by decide +kernel
theorem dX5_takeAll_22 : decode cX5_takeAll 22 = .ok (.istore 4, 2) := by decide +kernel
theorem dX5_takeAll_24 : decode cX5_takeAll 24 = .ok (.aload_n 0, 1) := by decide +kernel
theorem dX5_takeAll_25 : decode cX5_takeAll 25 = .ok (.getfield 22, 3) := by decide +kernel
theorem dX5_takeAll_28 : decode cX5_takeAll 28 = .ok (.iload_n 3, 1) := by decide +kernel
theorem dX5_takeAll_29 : decode cX5_takeAll 29 = .ok (.iconst 0, 1) := by decide +kernel
theorem dX5_takeAll_30 : decode cX5_takeAll 30 = .ok (.iastore, 1) := by decide +kernel
theorem dX5_takeAll_31 : decode cX5_takeAll 31 = .ok (.iload 4, 2) := by decide +kernel
theorem dX5_takeAll_33 : decode cX5_takeAll 33 = .ok (.ireturn, 1) := by decide +kernel
theorem dX5_put_0 : decode cX5_put 0 = .ok (.iload_n 1, 1) := by decide +kernel
theorem dX5_put_1 : decode cX5_put 1 = .ok (.invokestatic 121, 3) := by decide +kernel
theorem dX5_put_4 : decode cX5_put 4 = .ok (.ifCond .ne 5, 3) := by decide +kernel
theorem dX5_put_7 : decode cX5_put 7 = .ok (.iload_n 3, 1) := by decide +kernel
theorem dX5_put_8 : decode cX5_put 8 = .ok (.ireturn, 1) := by decide +kernel
theorem dX5_put_9 : decode cX5_put 9 = .ok (.aload_n 0, 1) := by decide +kernel
theorem dX5_put_10 : decode cX5_put 10 = .ok (.getfield 22, 3) := by decide +kernel
theorem dX5_put_13 : decode cX5_put 13 = .ok (.aload_n 0, 1) := by decide +kernel
theorem dX5_put_14 : decode cX5_put 14 = .ok (.iload_n 1, 1) := by decide +kernel
theorem dX5_put_15 : decode cX5_put 15 = .ok (.iload_n 2, 1) := by decide +kernel
theorem dX5_put_16 : decode cX5_put 16 = .ok (.invokevirtual 73, 3) := by decide +kernel
theorem dX5_put_19 : decode cX5_put 19 = .ok (.dup2, 1) := by decide +kernel
theorem dX5_put_20 : decode cX5_put 20 = .ok (.iaload, 1) := by decide +kernel
theorem dX5_put_21 : decode cX5_put 21 = .ok (.iload_n 3, 1) := by decide +kernel
theorem dX5_put_22 : decode cX5_put 22 = .ok (.iadd, 1) := by decide +kernel
theorem dX5_put_23 : decode cX5_put 23 = .ok (.iastore, 1) := by decide +kernel
theorem dX5_put_24 : decode cX5_put 24 = .ok (.iconst 0, 1) := by decide +kernel
theorem dX5_put_25 : decode cX5_put 25 = .ok (.ireturn, 1) := by decide +kernel
theorem dX5_pushOf_0 : decode cX5_pushOf 0 = .ok (.aload_n 0, 1) := by decide +kernel
theorem dX5_pushOf_1 : decode cX5_pushOf 1 = .ok (.getfield 31, 3) := by decide +kernel
theorem dX5_pushOf_4 : decode cX5_pushOf 4 = .ok (.iload_n 1, 1) := by decide +kernel
theorem dX5_pushOf_5 : decode cX5_pushOf 5 = .ok (.iaload, 1) := by decide +kernel
theorem dX5_pushOf_6 : decode cX5_pushOf 6 = .ok (.istore 5, 2) := by decide +kernel
theorem dX5_pushOf_8 : decode cX5_pushOf 8 = .ok (.iload_n 3, 1) := by decide +kernel
theorem dX5_pushOf_9 : decode cX5_pushOf 9 = .ok (.iload 5, 2) := by decide +kernel
theorem dX5_pushOf_11 : decode cX5_pushOf 11 = .ok (.if_icmp .eq 13, 3) := by decide +kernel
theorem dX5_pushOf_14 : decode cX5_pushOf 14 = .ok (.iload_n 3, 1) := by decide +kernel
theorem dX5_pushOf_15 : decode cX5_pushOf 15 = .ok (.iload 5, 2) := by decide +kernel
theorem dX5_pushOf_17 : decode cX5_pushOf 17 = .ok (.iconst 1, 1) := by decide +kernel
theorem dX5_pushOf_18 : decode cX5_pushOf 18 = .ok (.isub, 1) := by decide +kernel
theorem dX5_pushOf_19 : decode cX5_pushOf 19 = .ok (.if_icmp .eq 5, 3) := by decide +kernel
theorem dX5_pushOf_22 : decode cX5_pushOf 22 = .ok (.iconst 0, 1) := by decide +kernel
theorem dX5_pushOf_23 : decode cX5_pushOf 23 = .ok (.ireturn, 1) := by decide +kernel
theorem dX5_pushOf_24 : decode cX5_pushOf 24 = .ok (.aload_n 0, 1) := by decide +kernel
theorem dX5_pushOf_25 : decode cX5_pushOf 25 = .ok (.getfield 9, 3) := by decide +kernel
theorem dX5_pushOf_28 : decode cX5_pushOf 28 = .ok (.aload_n 0, 1) := by decide +kernel
theorem dX5_pushOf_29 : decode cX5_pushOf 29 = .ok (.getfield 28, 3) := by decide +kernel
theorem dX5_pushOf_32 : decode cX5_pushOf 32 = .ok (.iload_n 1, 1) := by decide +kernel
theorem dX5_pushOf_33 : decode cX5_pushOf 33 = .ok (.iaload, 1) := by decide +kernel
theorem dX5_pushOf_34 : decode cX5_pushOf 34 = .ok (.aaload, 1) := by decide +kernel
theorem dX5_pushOf_35 : decode cX5_pushOf 35 = .ok (.astore 6, 2) := by decide +kernel
theorem dX5_pushOf_37 : decode cX5_pushOf 37 = .ok (.aload 6, 2) := by decide +kernel
theorem dX5_pushOf_39 : decode cX5_pushOf 39 = .ok (.aload_n 0, 1) := by decide +kernel
theorem dX5_pushOf_40 : decode cX5_pushOf 40 = .ok (.getfield 51, 3) := by decide +kernel
theorem dX5_pushOf_43 : decode cX5_pushOf 43 = .ok (.iload_n 2, 1) := by decide +kernel
theorem dX5_pushOf_44 : decode cX5_pushOf 44 = .ok (.iadd, 1) := by decide +kernel
theorem dX5_pushOf_45 : decode cX5_pushOf 45 = .ok (.invokevirtual 102, 3) := by decide +kernel
theorem dX5_pushOf_48 : decode cX5_pushOf 48 = .ok (.ifCond .ne 5, 3) := by decide +kernel
theorem dX5_pushOf_51 : decode cX5_pushOf 51 = .ok (.iconst 0, 1) := by decide +kernel
theorem dX5_pushOf_52 : decode cX5_pushOf 52 = .ok (.ireturn, 1) := by decide +kernel
theorem dX5_pushOf_53 : decode cX5_pushOf 53 = .ok (.aload_n 0, 1) := by decide +kernel
theorem dX5_pushOf_54 : decode cX5_pushOf 54 = .ok (.iload 4, 2) := by decide +kernel
theorem dX5_pushOf_56 : decode cX5_pushOf 56 = .ok (.aload_n 0, 1) := by decide +kernel
theorem dX5_pushOf_57 : decode cX5_pushOf 57 = .ok (.aload_n 0, 1) := by decide +kernel
theorem dX5_pushOf_58 : decode cX5_pushOf 58 = .ok (.getfield 34, 3) := by decide +kernel
theorem dX5_pushOf_61 : decode cX5_pushOf 61 = .ok (.iload_n 1, 1) := by decide +kernel
theorem dX5_pushOf_62 : decode cX5_pushOf 62 = .ok (.iaload, 1) := by decide +kernel
theorem dX5_pushOf_63 : decode cX5_pushOf 63 = .ok (.iload_n 2, 1) := by decide +kernel
theorem dX5_pushOf_64 : decode cX5_pushOf 64 = .ok (.aload_n 0, 1) := by decide +kernel
theorem dX5_pushOf_65 : decode cX5_pushOf 65 = .ok (.getfield 37, 3) := by decide +kernel
theorem dX5_pushOf_68 : decode cX5_pushOf 68 = .ok (.iload_n 1, 1) := by decide +kernel
theorem dX5_pushOf_69 : decode cX5_pushOf 69 = .ok (.iaload, 1) := by decide +kernel
theorem dX5_pushOf_70 : decode cX5_pushOf 70 = .ok (.imul, 1) := by decide +kernel
theorem dX5_pushOf_71 : decode cX5_pushOf 71 = .ok (.iadd, 1) := by decide +kernel
theorem dX5_pushOf_72 : decode cX5_pushOf 72 = .ok (.invokevirtual 84, 3) := by decide +kernel
theorem dX5_pushOf_75 : decode cX5_pushOf 75 = .ok (.isub, 1) := by decide +kernel
theorem dX5_pushOf_76 : decode cX5_pushOf 76 = .ok (.aload_n 0, 1) := by decide +kernel
theorem dX5_pushOf_77 : decode cX5_pushOf 77 = .ok (.getfield 44, 3) := by decide +kernel
theorem dX5_pushOf_80 : decode cX5_pushOf 80 = .ok (.iadd, 1) := by decide +kernel
theorem dX5_pushOf_81 : decode cX5_pushOf 81 = .ok (.invokevirtual 84, 3) := by decide +kernel
theorem dX5_pushOf_84 : decode cX5_pushOf 84 = .ok (.istore 7, 2) := by decide +kernel
theorem dX5_pushOf_86 : decode cX5_pushOf 86 = .ok (.iload 7, 2) := by decide +kernel
theorem dX5_pushOf_88 : decode cX5_pushOf 88 = .ok (.aload_n 0, 1) := by decide +kernel
theorem dX5_pushOf_89 : decode cX5_pushOf 89 = .ok (.getfield 44, 3) := by decide +kernel
theorem dX5_pushOf_92 : decode cX5_pushOf 92 = .ok (.iload 7, 2) := by decide +kernel
theorem dX5_pushOf_94 : decode cX5_pushOf 94 = .ok (.isub, 1) := by decide +kernel
theorem dX5_pushOf_95 : decode cX5_pushOf 95 = .ok (.invokestatic 124, 3) := by decide +kernel
theorem dX5_pushOf_98 : decode cX5_pushOf 98 = .ok (.aload 6, 2) := by decide +kernel
theorem dX5_pushOf_100 : decode cX5_pushOf 100 = .ok (.invokevirtual 111, 3) := by decide +kernel
theorem dX5_pushOf_103 : decode cX5_pushOf 103 = .ok (.if_icmp .le 5, 3) := by decide +kernel
theorem dX5_pushOf_106 : decode cX5_pushOf 106 = .ok (.iconst 0, 1) := by decide +kernel
theorem dX5_pushOf_107 : decode cX5_pushOf 107 = .ok (.ireturn, 1) := by decide +kernel
theorem dX5_pushOf_108 : decode cX5_pushOf 108 = .ok (.iload_n 3, 1) := by decide +kernel
theorem dX5_pushOf_109 : decode cX5_pushOf 109 = .ok (.iload 5, 2) := by decide +kernel
theorem dX5_pushOf_111 : decode cX5_pushOf 111 = .ok (.if_icmp .ne 11, 3) := by decide +kernel
theorem dX5_pushOf_114 : decode cX5_pushOf 114 = .ok (.aload 6, 2) := by decide +kernel
theorem dX5_pushOf_116 : decode cX5_pushOf 116 = .ok (.invokevirtual 108, 3) := by decide +kernel
theorem dX5_pushOf_119 : decode cX5_pushOf 119 = .ok (.goto 9, 3) := by decide +kernel
theorem dX5_pushOf_122 : decode cX5_pushOf 122 = .ok (.aload 6, 2) := by decide +kernel
theorem dX5_pushOf_124 : decode cX5_pushOf 124 = .ok (.invokevirtual 108, 3) := by decide +kernel
theorem dX5_pushOf_127 : decode cX5_pushOf 127 = .ok (.ineg, 1) := by decide +kernel
theorem dX5_pushOf_128 : decode cX5_pushOf 128 = .ok (.ireturn, 1) := by decide +kernel
theorem dX5_comesRound_0 : decode cX5_comesRound 0 = .ok (.iconst 1, 1) := by decide +kernel
theorem dX5_comesRound_1 : decode cX5_comesRound 1 = .ok (.istore_n 1, 1) := by decide +kernel
theorem dX5_comesRound_2 : decode cX5_comesRound 2 = .ok (.iload_n 1, 1) := by decide +kernel
theorem dX5_comesRound_3 : decode cX5_comesRound 3 = .ok (.aload_n 0, 1) := by decide +kernel
theorem dX5_comesRound_4 : decode cX5_comesRound 4 = .ok (.getfield 44, 3) := by decide +kernel
theorem dX5_comesRound_7 : decode cX5_comesRound 7 = .ok (.if_icmp .ge 17, 3) := by decide +kernel
theorem dX5_comesRound_10 : decode cX5_comesRound 10 = .ok (.aload_n 0, 1) := by decide +kernel
theorem dX5_comesRound_11 : decode cX5_comesRound 11 = .ok (.iload_n 1, 1) := by decide +kernel
theorem dX5_comesRound_12 : decode cX5_comesRound 12 = .ok (.invokevirtual 129, 3) := by decide +kernel
theorem dX5_comesRound_15 : decode cX5_comesRound 15 = .ok (.ifCond .ne 9, 3) := by decide +kernel
theorem dX5_comesRound_18 : decode cX5_comesRound 18 = .ok (.iinc 1 1, 3) := by decide +kernel
theorem dX5_comesRound_21 : decode cX5_comesRound 21 = .ok (.goto (-19), 3) := by decide +kernel
theorem dX5_comesRound_24 : decode cX5_comesRound 24 = .ok (.iload_n 1, 1) := by decide +kernel
theorem dX5_comesRound_25 : decode cX5_comesRound 25 = .ok (.ireturn, 1) := by decide +kernel
theorem dX5_isRoundBehind_0 : decode cX5_isRoundBehind 0 = .ok (.iconst 0, 1) := by decide +kernel
theorem dX5_isRoundBehind_1 : decode cX5_isRoundBehind 1 = .ok (.istore_n 2, 1) := by decide +kernel
theorem dX5_isRoundBehind_2 : decode cX5_isRoundBehind 2 = .ok (.iload_n 2, 1) := by decide +kernel
theorem dX5_isRoundBehind_3 : decode cX5_isRoundBehind 3 = .ok (.iconst 5, 1) := by decide +kernel
theorem dX5_isRoundBehind_4 : decode cX5_isRoundBehind 4 = .ok (.if_icmp .ge 26, 3) := by decide +kernel
theorem dX5_isRoundBehind_7 : decode cX5_isRoundBehind 7 = .ok (.aload_n 0, 1) := by decide +kernel
theorem dX5_isRoundBehind_8 : decode cX5_isRoundBehind 8 = .ok (.iload_n 1, 1) := by decide +kernel
theorem dX5_isRoundBehind_9 : decode cX5_isRoundBehind 9 = .ok (.aload_n 0, 1) := by decide +kernel
theorem dX5_isRoundBehind_10 : decode cX5_isRoundBehind 10 = .ok (.getfield 15, 3) := by decide +kernel
theorem dX5_isRoundBehind_13 : decode cX5_isRoundBehind 13 = .ok (.iload_n 2, 1) := by decide +kernel
theorem dX5_isRoundBehind_14 : decode cX5_isRoundBehind 14 = .ok (.iaload, 1) := by decide +kernel
theorem dX5_isRoundBehind_15 : decode cX5_isRoundBehind 15 = .ok (.imul, 1) := by decide +kernel
theorem dX5_isRoundBehind_16 : decode cX5_isRoundBehind 16 = .ok (.invokevirtual 84, 3) := by decide +kernel
theorem dX5_isRoundBehind_19 : decode cX5_isRoundBehind 19 = .ok (.ifCond .eq 5, 3) := by decide +kernel
theorem dX5_isRoundBehind_22 : decode cX5_isRoundBehind 22 = .ok (.iconst 0, 1) := by decide +kernel
theorem dX5_isRoundBehind_23 : decode cX5_isRoundBehind 23 = .ok (.ireturn, 1) := by decide +kernel
theorem dX5_isRoundBehind_24 : decode cX5_isRoundBehind 24 = .ok (.iinc 2 1, 3) := by decide +kernel
theorem dX5_isRoundBehind_27 : decode cX5_isRoundBehind 27 = .ok (.goto (-25), 3) := by decide +kernel
theorem dX5_isRoundBehind_30 : decode cX5_isRoundBehind 30 = .ok (.iconst 0, 1) := by decide +kernel
theorem dX5_isRoundBehind_31 : decode cX5_isRoundBehind 31 = .ok (.istore_n 2, 1) := by decide +kernel
theorem dX5_isRoundBehind_32 : decode cX5_isRoundBehind 32 = .ok (.iload_n 2, 1) := by decide +kernel
theorem dX5_isRoundBehind_33 : decode cX5_isRoundBehind 33 = .ok (.aload_n 0, 1) := by decide +kernel
theorem dX5_isRoundBehind_34 : decode cX5_isRoundBehind 34 = .ok (.getfield 48, 3) := by decide +kernel
theorem dX5_isRoundBehind_37 : decode cX5_isRoundBehind 37 = .ok (.if_icmp .ge 26, 3) := by decide +kernel
theorem dX5_isRoundBehind_40 : decode cX5_isRoundBehind 40 = .ok (.aload_n 0, 1) := by decide +kernel
theorem dX5_isRoundBehind_41 : decode cX5_isRoundBehind 41 = .ok (.iload_n 1, 1) := by decide +kernel
theorem dX5_isRoundBehind_42 : decode cX5_isRoundBehind 42 = .ok (.aload_n 0, 1) := by decide +kernel
theorem dX5_isRoundBehind_43 : decode cX5_isRoundBehind 43 = .ok (.getfield 37, 3) := by decide +kernel
theorem dX5_isRoundBehind_46 : decode cX5_isRoundBehind 46 = .ok (.iload_n 2, 1) := by decide +kernel
theorem dX5_isRoundBehind_47 : decode cX5_isRoundBehind 47 = .ok (.iaload, 1) := by decide +kernel
theorem dX5_isRoundBehind_48 : decode cX5_isRoundBehind 48 = .ok (.imul, 1) := by decide +kernel
theorem dX5_isRoundBehind_49 : decode cX5_isRoundBehind 49 = .ok (.invokevirtual 84, 3) := by decide +kernel
theorem dX5_isRoundBehind_52 : decode cX5_isRoundBehind 52 = .ok (.ifCond .eq 5, 3) := by decide +kernel
theorem dX5_isRoundBehind_55 : decode cX5_isRoundBehind 55 = .ok (.iconst 0, 1) := by decide +kernel
theorem dX5_isRoundBehind_56 : decode cX5_isRoundBehind 56 = .ok (.ireturn, 1) := by decide +kernel
theorem dX5_isRoundBehind_57 : decode cX5_isRoundBehind 57 = .ok (.iinc 2 1, 3) := by decide +kernel
theorem dX5_isRoundBehind_60 : decode cX5_isRoundBehind 60 = .ok (.goto (-28), 3) := by decide +kernel
theorem dX5_isRoundBehind_63 : decode cX5_isRoundBehind 63 = .ok (.iconst 1, 1) := by decide +kernel
theorem dX5_isRoundBehind_64 : decode cX5_isRoundBehind 64 = .ok (.ireturn, 1) := by decide +kernel
theorem dX5_addTo_0 : decode cX5_addTo 0 = .ok (.lload_n 1, 1) := by decide +kernel
theorem dX5_addTo_1 : decode cX5_addTo 1 = .ok (.lstore_n 3, 1) := by decide +kernel
theorem dX5_addTo_2 : decode cX5_addTo 2 = .ok (.iconst 0, 1) := by decide +kernel
theorem dX5_addTo_3 : decode cX5_addTo 3 = .ok (.istore 5, 2) := by decide +kernel
theorem dX5_addTo_5 : decode cX5_addTo 5 = .ok (.iload 5, 2) := by decide +kernel
theorem dX5_addTo_7 : decode cX5_addTo 7 = .ok (.iconst 5, 1) := by decide +kernel
theorem dX5_addTo_8 : decode cX5_addTo 8 = .ok (.if_icmp .ge 73, 3) := by decide +kernel
theorem dX5_addTo_11 : decode cX5_addTo 11 = .ok (.ldc2_w 132, 3) := by decide +kernel
theorem dX5_addTo_14 : decode cX5_addTo 14 = .ok (.lload_n 3, 1) := by decide +kernel
theorem dX5_addTo_15 : decode cX5_addTo 15 = .ok (.lmul, 1) := by decide +kernel
theorem dX5_addTo_16 : decode cX5_addTo 16 = .ok (.aload_n 0, 1) := by decide +kernel
theorem dX5_addTo_17 : decode cX5_addTo 17 = .ok (.getfield 15, 3) := by decide +kernel
theorem dX5_addTo_20 : decode cX5_addTo 20 = .ok (.iload 5, 2) := by decide +kernel
theorem dX5_addTo_22 : decode cX5_addTo 22 = .ok (.iaload, 1) := by decide +kernel
theorem dX5_addTo_23 : decode cX5_addTo 23 = .ok (.i2l, 1) := by decide +kernel
theorem dX5_addTo_24 : decode cX5_addTo 24 = .ok (.ladd, 1) := by decide +kernel
theorem dX5_addTo_25 : decode cX5_addTo 25 = .ok (.lstore_n 3, 1) := by decide +kernel
theorem dX5_addTo_26 : decode cX5_addTo 26 = .ok (.ldc2_w 132, 3) := by decide +kernel
theorem dX5_addTo_29 : decode cX5_addTo 29 = .ok (.lload_n 3, 1) := by decide +kernel
theorem dX5_addTo_30 : decode cX5_addTo 30 = .ok (.lmul, 1) := by decide +kernel
theorem dX5_addTo_31 : decode cX5_addTo 31 = .ok (.aload_n 0, 1) := by decide +kernel
theorem dX5_addTo_32 : decode cX5_addTo 32 = .ok (.getfield 19, 3) := by decide +kernel
theorem dX5_addTo_35 : decode cX5_addTo 35 = .ok (.iload 5, 2) := by decide +kernel
theorem dX5_addTo_37 : decode cX5_addTo 37 = .ok (.iaload, 1) := by decide +kernel
theorem dX5_addTo_38 : decode cX5_addTo 38 = .ok (.i2l, 1) := by decide +kernel
theorem dX5_addTo_39 : decode cX5_addTo 39 = .ok (.ladd, 1) := by decide +kernel
theorem dX5_addTo_40 : decode cX5_addTo 40 = .ok (.lstore_n 3, 1) := by decide +kernel
theorem dX5_addTo_41 : decode cX5_addTo 41 = .ok (.iconst 0, 1) := by decide +kernel
theorem dX5_addTo_42 : decode cX5_addTo 42 = .ok (.istore 6, 2) := by decide +kernel
theorem dX5_addTo_44 : decode cX5_addTo 44 = .ok (.iload 6, 2) := by decide +kernel
theorem dX5_addTo_46 : decode cX5_addTo 46 = .ok (.aload_n 0, 1) := by decide +kernel
theorem dX5_addTo_47 : decode cX5_addTo 47 = .ok (.getfield 44, 3) := by decide +kernel
theorem dX5_addTo_50 : decode cX5_addTo 50 = .ok (.if_icmp .ge 25, 3) := by decide +kernel
theorem dX5_addTo_53 : decode cX5_addTo 53 = .ok (.ldc2_w 132, 3) := by decide +kernel
theorem dX5_addTo_56 : decode cX5_addTo 56 = .ok (.lload_n 3, 1) := by decide +kernel
theorem dX5_addTo_57 : decode cX5_addTo 57 = .ok (.lmul, 1) := by decide +kernel
theorem dX5_addTo_58 : decode cX5_addTo 58 = .ok (.aload_n 0, 1) := by decide +kernel
theorem dX5_addTo_59 : decode cX5_addTo 59 = .ok (.iload 5, 2) := by decide +kernel
theorem dX5_addTo_61 : decode cX5_addTo 61 = .ok (.iload 6, 2) := by decide +kernel
theorem dX5_addTo_63 : decode cX5_addTo 63 = .ok (.invokevirtual 81, 3) := by decide +kernel
theorem dX5_addTo_66 : decode cX5_addTo 66 = .ok (.i2l, 1) := by decide +kernel
theorem dX5_addTo_67 : decode cX5_addTo 67 = .ok (.ladd, 1) := by decide +kernel
theorem dX5_addTo_68 : decode cX5_addTo 68 = .ok (.lstore_n 3, 1) := by decide +kernel
theorem dX5_addTo_69 : decode cX5_addTo 69 = .ok (.iinc 6 1, 3) := by decide +kernel
theorem dX5_addTo_72 : decode cX5_addTo 72 = .ok (.goto (-28), 3) := by decide +kernel
theorem dX5_addTo_75 : decode cX5_addTo 75 = .ok (.iinc 5 1, 3) := by decide +kernel
theorem dX5_addTo_78 : decode cX5_addTo 78 = .ok (.goto (-73), 3) := by decide +kernel
theorem dX5_addTo_81 : decode cX5_addTo 81 = .ok (.iconst 0, 1) := by decide +kernel
theorem dX5_addTo_82 : decode cX5_addTo 82 = .ok (.istore 5, 2) := by decide +kernel
theorem dX5_addTo_84 : decode cX5_addTo 84 = .ok (.iload 5, 2) := by decide +kernel
theorem dX5_addTo_86 : decode cX5_addTo 86 = .ok (.aload_n 0, 1) := by decide +kernel
theorem dX5_addTo_87 : decode cX5_addTo 87 = .ok (.getfield 48, 3) := by decide +kernel
theorem dX5_addTo_90 : decode cX5_addTo 90 = .ok (.if_icmp .ge 40, 3) := by decide +kernel
theorem dX5_addTo_93 : decode cX5_addTo 93 = .ok (.iconst 0, 1) := by decide +kernel
theorem dX5_addTo_94 : decode cX5_addTo 94 = .ok (.istore 6, 2) := by decide +kernel
theorem dX5_addTo_96 : decode cX5_addTo 96 = .ok (.iload 6, 2) := by decide +kernel
theorem dX5_addTo_98 : decode cX5_addTo 98 = .ok (.iconst 4, 1) := by decide +kernel
theorem dX5_addTo_99 : decode cX5_addTo 99 = .ok (.if_icmp .ge 25, 3) := by decide +kernel
theorem dX5_addTo_102 : decode cX5_addTo 102 = .ok (.ldc2_w 132, 3) := by decide +kernel
theorem dX5_addTo_105 : decode cX5_addTo 105 = .ok (.lload_n 3, 1) := by decide +kernel
theorem dX5_addTo_106 : decode cX5_addTo 106 = .ok (.lmul, 1) := by decide +kernel
theorem dX5_addTo_107 : decode cX5_addTo 107 = .ok (.aload_n 0, 1) := by decide +kernel
theorem dX5_addTo_108 : decode cX5_addTo 108 = .ok (.iload 5, 2) := by decide +kernel
theorem dX5_addTo_110 : decode cX5_addTo 110 = .ok (.iload 6, 2) := by decide +kernel
theorem dX5_addTo_112 : decode cX5_addTo 112 = .ok (.invokevirtual 134, 3) := by decide +kernel
theorem dX5_addTo_115 : decode cX5_addTo 115 = .ok (.i2l, 1) := by decide +kernel
theorem dX5_addTo_116 : decode cX5_addTo 116 = .ok (.ladd, 1) := by decide +kernel
theorem dX5_addTo_117 : decode cX5_addTo 117 = .ok (.lstore_n 3, 1) := by decide +kernel
theorem dX5_addTo_118 : decode cX5_addTo 118 = .ok (.iinc 6 1, 3) := by decide +kernel
theorem dX5_addTo_121 : decode cX5_addTo 121 = .ok (.goto (-25), 3) := by decide +kernel
theorem dX5_addTo_124 : decode cX5_addTo 124 = .ok (.iinc 5 1, 3) := by decide +kernel
theorem dX5_addTo_127 : decode cX5_addTo 127 = .ok (.goto (-43), 3) := by decide +kernel
theorem dX5_addTo_130 : decode cX5_addTo 130 = .ok (.lload_n 3, 1) := by decide +kernel
theorem dX5_addTo_131 : decode cX5_addTo 131 = .ok (.lreturn, 1) := by decide +kernel
theorem dX6_init_0 : decode cX6_init 0 = .ok (.aload_n 0, 1) := by decide +kernel
theorem dX6_init_1 : decode cX6_init 1 = .ok (.invokespecial 1, 3) := by decide +kernel
theorem dX6_init_4 : decode cX6_init 4 = .ok (.return_, 1) := by decide +kernel
theorem dX6_isAwake_0 : decode cX6_isAwake 0 = .ok (.iload_n 1, 1) := by decide +kernel
theorem dX6_isAwake_1 : decode cX6_isAwake 1 = .ok (.iconst 3, 1) := by decide +kernel
theorem dX6_isAwake_2 : decode cX6_isAwake 2 = .ok (.irem, 1) := by decide +kernel
theorem dX6_isAwake_3 : decode cX6_isAwake 3 = .ok (.ifCond .eq 7, 3) := by decide +kernel
theorem dX6_isAwake_6 : decode cX6_isAwake 6 = .ok (.iconst 1, 1) := by decide +kernel
theorem dX6_isAwake_7 : decode cX6_isAwake 7 = .ok (.goto 4, 3) := by decide +kernel
theorem dX6_isAwake_10 : decode cX6_isAwake 10 = .ok (.iconst 0, 1) := by decide +kernel
theorem dX6_isAwake_11 : decode cX6_isAwake 11 = .ok (.ireturn, 1) := by decide +kernel
theorem dX7_init_0 : decode cX7_init 0 = .ok (.aload_n 0, 1) := by decide +kernel
theorem dX7_init_1 : decode cX7_init 1 = .ok (.invokespecial 3, 3) := by decide +kernel
theorem dX7_init_4 : decode cX7_init 4 = .ok (.aload_n 0, 1) := by decide +kernel
theorem dX7_init_5 : decode cX7_init 5 = .ok (.new 9, 3) := by decide +kernel
theorem dX7_init_8 : decode cX7_init 8 = .ok (.dup, 1) := by decide +kernel
theorem dX7_init_9 : decode cX7_init 9 = .ok (.aload_n 1, 1) := by decide +kernel
theorem dX7_init_10 : decode cX7_init 10 = .ok (.invokespecial 11, 3) := by decide +kernel
theorem dX7_init_13 : decode cX7_init 13 = .ok (.putfield 14, 3) := by decide +kernel
theorem dX7_init_16 : decode cX7_init 16 = .ok (.aload_n 0, 1) := by decide +kernel
theorem dX7_init_17 : decode cX7_init 17 = .ok (.bipush 6, 2) := by decide +kernel
theorem dX7_init_19 : decode cX7_init 19 = .ok (.anewarray 9, 3) := by decide +kernel
theorem dX7_init_22 : decode cX7_init 22 = .ok (.putfield 20, 3) := by decide +kernel
end
section
theorem dX7_init_25 : decode cX7_init 25 = .ok (.iconst 0, 1) := by decide +kernel
theorem dX7_init_26 : decode cX7_init 26 = .ok (.istore_n 2, 1) := by decide +kernel
theorem dX7_init_27 : decode cX7_init 27 = .ok (.iload_n 2, 1) := by decide +kernel
theorem dX7_init_28 : decode cX7_init 28 = .ok (.bipush 6, 2) := by decide +kernel
theorem dX7_init_30 : decode cX7_init 30 = .ok (.if_icmp .ge 23, 3) := by decide +kernel
theorem dX7_init_33 : decode cX7_init 33 = .ok (.aload_n 0, 1) := by decide +kernel
theorem dX7_init_34 : decode cX7_init 34 = .ok (.getfield 20, 3) := by decide +kernel
theorem dX7_init_37 : decode cX7_init 37 = .ok (.iload_n 2, 1) := by decide +kernel
theorem dX7_init_38 : decode cX7_init 38 = .ok (.new 9, 3) := by decide +kernel
theorem dX7_init_41 : decode cX7_init 41 = .ok (.dup, 1) := by decide +kernel
theorem dX7_init_42 : decode cX7_init 42 = .ok (.aload_n 1, 1) := by decide +kernel
theorem dX7_init_43 : decode cX7_init 43 = .ok (.invokespecial 11, 3) := by decide +kernel
theorem dX7_init_46 : decode cX7_init 46 = .ok (.aastore, 1) := by decide +kernel
theorem dX7_init_47 : decode cX7_init 47 = .ok (.iinc 2 1, 3) := by decide +kernel
theorem dX7_init_50 : decode cX7_init 50 = .ok (.goto (-23), 3) := by decide +kernel
theorem dX7_init_53 : decode cX7_init 53 = .ok (.aload_n 0, 1) := by decide +kernel
theorem dX7_init_54 : decode cX7_init 54 = .ok (.iconst 0, 1) := by decide +kernel
theorem dX7_init_55 : decode cX7_init 55 = .ok (.putfield 24, 3) := by decide +kernel
theorem dX7_init_58 : decode cX7_init 58 = .ok (.aload_n 0, 1) := by decide +kernel
theorem dX7_init_59 : decode cX7_init 59 = .ok (.iconst 0, 1) := by decide +kernel
theorem dX7_init_60 : decode cX7_init 60 = .ok (.putfield 28, 3) := by decide +kernel
theorem dX7_init_63 : decode cX7_init 63 = .ok (.return_, 1) := by decide +kernel
theorem dX7_copy_0 : decode cX7_copy 0 = .ok (.aload_n 0, 1) := by decide +kernel
theorem dX7_copy_1 : decode cX7_copy 1 = .ok (.getfield 14, 3) := by decide +kernel
theorem dX7_copy_4 : decode cX7_copy 4 = .ok (.aload_n 1, 1) := by decide +kernel
theorem dX7_copy_5 : decode cX7_copy 5 = .ok (.getfield 14, 3) := by decide +kernel
theorem dX7_copy_8 : decode cX7_copy 8 = .ok (.invokevirtual 31, 3) := by decide +kernel
theorem dX7_copy_11 : decode cX7_copy 11 = .ok (.iconst 0, 1) := by decide +kernel
theorem dX7_copy_12 : decode cX7_copy 12 = .ok (.istore_n 2, 1) := by decide +kernel
theorem dX7_copy_13 : decode cX7_copy 13 = .ok (.iload_n 2, 1) := by decide +kernel
theorem dX7_copy_14 : decode cX7_copy 14 = .ok (.bipush 6, 2) := by decide +kernel
theorem dX7_copy_16 : decode cX7_copy 16 = .ok (.if_icmp .ge 24, 3) := by decide +kernel
theorem dX7_copy_19 : decode cX7_copy 19 = .ok (.aload_n 0, 1) := by decide +kernel
theorem dX7_copy_20 : decode cX7_copy 20 = .ok (.getfield 20, 3) := by decide +kernel
theorem dX7_copy_23 : decode cX7_copy 23 = .ok (.iload_n 2, 1) := by decide +kernel
theorem dX7_copy_24 : decode cX7_copy 24 = .ok (.aaload, 1) := by decide +kernel
theorem dX7_copy_25 : decode cX7_copy 25 = .ok (.aload_n 1, 1) := by decide +kernel
theorem dX7_copy_26 : decode cX7_copy 26 = .ok (.getfield 20, 3) := by decide +kernel
theorem dX7_copy_29 : decode cX7_copy 29 = .ok (.iload_n 2, 1) := by decide +kernel
theorem dX7_copy_30 : decode cX7_copy 30 = .ok (.aaload, 1) := by decide +kernel
theorem dX7_copy_31 : decode cX7_copy 31 = .ok (.invokevirtual 31, 3) := by decide +kernel
theorem dX7_copy_34 : decode cX7_copy 34 = .ok (.iinc 2 1, 3) := by decide +kernel
theorem dX7_copy_37 : decode cX7_copy 37 = .ok (.goto (-24), 3) := by decide +kernel
theorem dX7_copy_40 : decode cX7_copy 40 = .ok (.aload_n 0, 1) := by decide +kernel
theorem dX7_copy_41 : decode cX7_copy 41 = .ok (.aload_n 1, 1) := by decide +kernel
theorem dX7_copy_42 : decode cX7_copy 42 = .ok (.getfield 24, 3) := by decide +kernel
theorem dX7_copy_45 : decode cX7_copy 45 = .ok (.putfield 24, 3) := by decide +kernel
theorem dX7_copy_48 : decode cX7_copy 48 = .ok (.aload_n 0, 1) := by decide +kernel
theorem dX7_copy_49 : decode cX7_copy 49 = .ok (.aload_n 1, 1) := by decide +kernel
theorem dX7_copy_50 : decode cX7_copy 50 = .ok (.getfield 28, 3) := by decide +kernel
theorem dX7_copy_53 : decode cX7_copy 53 = .ok (.putfield 28, 3) := by decide +kernel
theorem dX7_copy_56 : decode cX7_copy 56 = .ok (.return_, 1) := by decide +kernel
theorem dX7_forget_0 : decode cX7_forget 0 = .ok (.aload_n 0, 1) := by decide +kernel
theorem dX7_forget_1 : decode cX7_forget 1 = .ok (.iconst 0, 1) := by decide +kernel
theorem dX7_forget_2 : decode cX7_forget 2 = .ok (.putfield 28, 3) := by decide +kernel
theorem dX7_forget_5 : decode cX7_forget 5 = .ok (.return_, 1) := by decide +kernel
theorem dX7_goOn_0 : decode cX7_goOn 0 = .ok (.aload_n 0, 1) := by decide +kernel
theorem dX7_goOn_1 : decode cX7_goOn 1 = .ok (.aload_n 0, 1) := by decide +kernel
theorem dX7_goOn_2 : decode cX7_goOn 2 = .ok (.getfield 24, 3) := by decide +kernel
theorem dX7_goOn_5 : decode cX7_goOn 5 = .ok (.iconst 1, 1) := by decide +kernel
theorem dX7_goOn_6 : decode cX7_goOn 6 = .ok (.iadd, 1) := by decide +kernel
theorem dX7_goOn_7 : decode cX7_goOn 7 = .ok (.bipush 6, 2) := by decide +kernel
theorem dX7_goOn_9 : decode cX7_goOn 9 = .ok (.irem, 1) := by decide +kernel
theorem dX7_goOn_10 : decode cX7_goOn 10 = .ok (.putfield 24, 3) := by decide +kernel
theorem dX7_goOn_13 : decode cX7_goOn 13 = .ok (.aload_n 0, 1) := by decide +kernel
theorem dX7_goOn_14 : decode cX7_goOn 14 = .ok (.aload_n 0, 1) := by decide +kernel
theorem dX7_goOn_15 : decode cX7_goOn 15 = .ok (.getfield 28, 3) := by decide +kernel
theorem dX7_goOn_18 : decode cX7_goOn 18 = .ok (.iconst 1, 1) := by decide +kernel
theorem dX7_goOn_19 : decode cX7_goOn 19 = .ok (.iadd, 1) := by decide +kernel
theorem dX7_goOn_20 : decode cX7_goOn 20 = .ok (.bipush 6, 2) := by decide +kernel
theorem dX7_goOn_22 : decode cX7_goOn 22 = .ok (.invokestatic 35, 3) := by decide +kernel
theorem dX7_goOn_25 : decode cX7_goOn 25 = .ok (.putfield 28, 3) := by decide +kernel
theorem dX7_goOn_28 : decode cX7_goOn 28 = .ok (.aload_n 0, 1) := by decide +kernel
theorem dX7_goOn_29 : decode cX7_goOn 29 = .ok (.getfield 20, 3) := by decide +kernel
theorem dX7_goOn_32 : decode cX7_goOn 32 = .ok (.aload_n 0, 1) := by decide +kernel
theorem dX7_goOn_33 : decode cX7_goOn 33 = .ok (.getfield 24, 3) := by decide +kernel
theorem dX7_goOn_36 : decode cX7_goOn 36 = .ok (.aaload, 1) := by decide +kernel
theorem dX7_goOn_37 : decode cX7_goOn 37 = .ok (.aload_n 0, 1) := by decide +kernel
theorem dX7_goOn_38 : decode cX7_goOn 38 = .ok (.getfield 14, 3) := by decide +kernel
theorem dX7_goOn_41 : decode cX7_goOn 41 = .ok (.invokevirtual 31, 3) := by decide +kernel
theorem dX7_goOn_44 : decode cX7_goOn 44 = .ok (.aload_n 0, 1) := by decide +kernel
theorem dX7_goOn_45 : decode cX7_goOn 45 = .ok (.getfield 14, 3) := by decide +kernel
theorem dX7_goOn_48 : decode cX7_goOn 48 = .ok (.invokevirtual 41, 3) := by decide +kernel
theorem dX7_goOn_51 : decode cX7_goOn 51 = .ok (.ireturn, 1) := by decide +kernel
theorem dX7_goBack_0 : decode cX7_goBack 0 = .ok (.aload_n 0, 1) := by decide +kernel
theorem dX7_goBack_1 : decode cX7_goBack 1 = .ok (.getfield 14, 3) := by decide +kernel
theorem dX7_goBack_4 : decode cX7_goBack 4 = .ok (.aload_n 0, 1) := by decide +kernel
theorem dX7_goBack_5 : decode cX7_goBack 5 = .ok (.getfield 20, 3) := by decide +kernel
theorem dX7_goBack_8 : decode cX7_goBack 8 = .ok (.aload_n 0, 1) := by decide +kernel
theorem dX7_goBack_9 : decode cX7_goBack 9 = .ok (.getfield 24, 3) := by decide +kernel
theorem dX7_goBack_12 : decode cX7_goBack 12 = .ok (.aaload, 1) := by decide +kernel
theorem dX7_goBack_13 : decode cX7_goBack 13 = .ok (.invokevirtual 45, 3) := by decide +kernel
theorem dX7_goBack_16 : decode cX7_goBack 16 = .ok (.aload_n 0, 1) := by decide +kernel
theorem dX7_goBack_17 : decode cX7_goBack 17 = .ok (.aload_n 0, 1) := by decide +kernel
theorem dX7_goBack_18 : decode cX7_goBack 18 = .ok (.getfield 24, 3) := by decide +kernel
theorem dX7_goBack_21 : decode cX7_goBack 21 = .ok (.bipush 6, 2) := by decide +kernel
theorem dX7_goBack_23 : decode cX7_goBack 23 = .ok (.iadd, 1) := by decide +kernel
theorem dX7_goBack_24 : decode cX7_goBack 24 = .ok (.iconst 1, 1) := by decide +kernel
theorem dX7_goBack_25 : decode cX7_goBack 25 = .ok (.isub, 1) := by decide +kernel
theorem dX7_goBack_26 : decode cX7_goBack 26 = .ok (.bipush 6, 2) := by decide +kernel
theorem dX7_goBack_28 : decode cX7_goBack 28 = .ok (.irem, 1) := by decide +kernel
theorem dX7_goBack_29 : decode cX7_goBack 29 = .ok (.putfield 24, 3) := by decide +kernel
theorem dX7_goBack_32 : decode cX7_goBack 32 = .ok (.aload_n 0, 1) := by decide +kernel
theorem dX7_goBack_33 : decode cX7_goBack 33 = .ok (.dup, 1) := by decide +kernel
theorem dX7_goBack_34 : decode cX7_goBack 34 = .ok (.getfield 28, 3) := by decide +kernel
theorem dX7_goBack_37 : decode cX7_goBack 37 = .ok (.iconst 1, 1) := by decide +kernel
theorem dX7_goBack_38 : decode cX7_goBack 38 = .ok (.isub, 1) := by decide +kernel
theorem dX7_goBack_39 : decode cX7_goBack 39 = .ok (.putfield 28, 3) := by decide +kernel
theorem dX7_goBack_42 : decode cX7_goBack 42 = .ok (.return_, 1) := by decide +kernel
theorem dX8_init_0 : decode cX8_init 0 = .ok (.aload_n 0, 1) := by decide +kernel
theorem dX8_init_1 : decode cX8_init 1 = .ok (.invokespecial 1, 3) := by decide +kernel
theorem dX8_init_4 : decode cX8_init 4 = .ok (.return_, 1) := by decide +kernel
theorem dX8_force_0 : decode cX8_force 0 = .ok (.iconst 2, 1) := by decide +kernel
theorem dX8_force_1 : decode cX8_force 1 = .ok (.ireturn, 1) := by decide +kernel
theorem dX9_init_0 : decode cX9_init 0 = .ok (.aload_n 0, 1) := by decide +kernel
theorem dX9_init_1 : decode cX9_init 1 = .ok (.invokespecial 3, 3) := by decide +kernel
theorem dX9_init_4 : decode cX9_init 4 = .ok (.aload_n 0, 1) := by decide +kernel
theorem dX9_init_5 : decode cX9_init 5 = .ok (.sipush 250, 3) := by decide +kernel
theorem dX9_init_8 : decode cX9_init 8 = .ok (.newarray .int, 2) := by decide +kernel
theorem dX9_init_10 : decode cX9_init 10 = .ok (.putfield 9, 3) := by decide +kernel
theorem dX9_init_13 : decode cX9_init 13 = .ok (.aload_n 0, 1) := by decide +kernel
theorem dX9_init_14 : decode cX9_init 14 = .ok (.iconst 0, 1) := by decide +kernel
theorem dX9_init_15 : decode cX9_init 15 = .ok (.putfield 15, 3) := by decide +kernel
theorem dX9_init_18 : decode cX9_init 18 = .ok (.aload_n 0, 1) := by decide +kernel
theorem dX9_init_19 : decode cX9_init 19 = .ok (.invokevirtual 19, 3) := by decide +kernel
theorem dX9_init_22 : decode cX9_init 22 = .ok (.return_, 1) := by decide +kernel
theorem dX9_add_0 : decode cX9_add 0 = .ok (.iload_n 3, 1) := by decide +kernel
theorem dX9_add_1 : decode cX9_add 1 = .ok (.iconst 1, 1) := by decide +kernel
theorem dX9_add_2 : decode cX9_add 2 = .ok (.isub, 1) := by decide +kernel
theorem dX9_add_3 : decode cX9_add 3 = .ok (.istore 4, 2) := by decide +kernel
theorem dX9_add_5 : decode cX9_add 5 = .ok (.iload 4, 2) := by decide +kernel
theorem dX9_add_7 : decode cX9_add 7 = .ok (.ifCond .lt 40, 3) := by decide +kernel
theorem dX9_add_10 : decode cX9_add 10 = .ok (.aload_n 0, 1) := by decide +kernel
theorem dX9_add_11 : decode cX9_add 11 = .ok (.getfield 9, 3) := by decide +kernel
theorem dX9_add_14 : decode cX9_add 14 = .ok (.aload_n 0, 1) := by decide +kernel
theorem dX9_add_15 : decode cX9_add 15 = .ok (.getfield 15, 3) := by decide +kernel
theorem dX9_add_18 : decode cX9_add 18 = .ok (.lload_n 1, 1) := by decide +kernel
theorem dX9_add_19 : decode cX9_add 19 = .ok (.bipush 8, 2) := by decide +kernel
theorem dX9_add_21 : decode cX9_add 21 = .ok (.iload 4, 2) := by decide +kernel
theorem dX9_add_23 : decode cX9_add 23 = .ok (.imul, 1) := by decide +kernel
theorem dX9_add_24 : decode cX9_add 24 = .ok (.lshr, 1) := by decide +kernel
theorem dX9_add_25 : decode cX9_add 25 = .ok (.ldc2_w 22, 3) := by decide +kernel
theorem dX9_add_28 : decode cX9_add 28 = .ok (.land, 1) := by decide +kernel
theorem dX9_add_29 : decode cX9_add 29 = .ok (.l2i, 1) := by decide +kernel
theorem dX9_add_30 : decode cX9_add 30 = .ok (.iastore, 1) := by decide +kernel
theorem dX9_add_31 : decode cX9_add 31 = .ok (.aload_n 0, 1) := by decide +kernel
theorem dX9_add_32 : decode cX9_add 32 = .ok (.dup, 1) := by decide +kernel
theorem dX9_add_33 : decode cX9_add 33 = .ok (.getfield 15, 3) := by decide +kernel
theorem dX9_add_36 : decode cX9_add 36 = .ok (.iconst 1, 1) := by decide +kernel
theorem dX9_add_37 : decode cX9_add 37 = .ok (.iadd, 1) := by decide +kernel
theorem dX9_add_38 : decode cX9_add 38 = .ok (.putfield 15, 3) := by decide +kernel
theorem dX9_add_41 : decode cX9_add 41 = .ok (.iinc 4 (-1), 3) := by decide +kernel
theorem dX9_add_44 : decode cX9_add 44 = .ok (.goto (-39), 3) := by decide +kernel
theorem dX9_add_47 : decode cX9_add 47 = .ok (.return_, 1) := by decide +kernel
theorem dX9_rewind_0 : decode cX9_rewind 0 = .ok (.aload_n 0, 1) := by decide +kernel
theorem dX9_rewind_1 : decode cX9_rewind 1 = .ok (.iconst 0, 1) := by decide +kernel
theorem dX9_rewind_2 : decode cX9_rewind 2 = .ok (.putfield 24, 3) := by decide +kernel
theorem dX9_rewind_5 : decode cX9_rewind 5 = .ok (.aload_n 0, 1) := by decide +kernel
theorem dX9_rewind_6 : decode cX9_rewind 6 = .ok (.iconst 0, 1) := by decide +kernel
theorem dX9_rewind_7 : decode cX9_rewind 7 = .ok (.putfield 27, 3) := by decide +kernel
theorem dX9_rewind_10 : decode cX9_rewind 10 = .ok (.aload_n 0, 1) := by decide +kernel
theorem dX9_rewind_11 : decode cX9_rewind 11 = .ok (.iconst 0, 1) := by decide +kernel
theorem dX9_rewind_12 : decode cX9_rewind 12 = .ok (.putfield 30, 3) := by decide +kernel
theorem dX9_rewind_15 : decode cX9_rewind 15 = .ok (.return_, 1) := by decide +kernel
theorem dX9_nextToken_0 : decode cX9_nextToken 0 = .ok (.aload_n 0, 1) := by decide +kernel
theorem dX9_nextToken_1 : decode cX9_nextToken 1 = .ok (.aload_n 0, 1) := by decide +kernel
theorem dX9_nextToken_2 : decode cX9_nextToken 2 = .ok (.getfield 30, 3) := by decide +kernel
theorem dX9_nextToken_5 : decode cX9_nextToken 5 = .ok (.putfield 27, 3) := by decide +kernel
theorem dX9_nextToken_8 : decode cX9_nextToken 8 = .ok (.aload_n 0, 1) := by decide +kernel
theorem dX9_nextToken_9 : decode cX9_nextToken 9 = .ok (.getfield 27, 3) := by decide +kernel
theorem dX9_nextToken_12 : decode cX9_nextToken 12 = .ok (.aload_n 0, 1) := by decide +kernel
theorem dX9_nextToken_13 : decode cX9_nextToken 13 = .ok (.getfield 15, 3) := by decide +kernel
theorem dX9_nextToken_16 : decode cX9_nextToken 16 = .ok (.if_icmp .ge 30, 3) := by decide +kernel
theorem dX9_nextToken_19 : decode cX9_nextToken 19 = .ok (.aload_n 0, 1) := by decide +kernel
theorem dX9_nextToken_20 : decode cX9_nextToken 20 = .ok (.getfield 9, 3) := by decide +kernel
theorem dX9_nextToken_23 : decode cX9_nextToken 23 = .ok (.aload_n 0, 1) := by decide +kernel
theorem dX9_nextToken_24 : decode cX9_nextToken 24 = .ok (.getfield 27, 3) := by decide +kernel
theorem dX9_nextToken_27 : decode cX9_nextToken 27 = .ok (.iaload, 1) := by decide +kernel
theorem dX9_nextToken_28 : decode cX9_nextToken 28 = .ok (.bipush 32, 2) := by decide +kernel
theorem dX9_nextToken_30 : decode cX9_nextToken 30 = .ok (.if_icmp .ne 16, 3) := by decide +kernel
theorem dX9_nextToken_33 : decode cX9_nextToken 33 = .ok (.aload_n 0, 1) := by decide +kernel
theorem dX9_nextToken_34 : decode cX9_nextToken 34 = .ok (.dup, 1) := by decide +kernel
theorem dX9_nextToken_35 : decode cX9_nextToken 35 = .ok (.getfield 27, 3) := by decide +kernel
theorem dX9_nextToken_38 : decode cX9_nextToken 38 = .ok (.iconst 1, 1) := by decide +kernel
theorem dX9_nextToken_39 : decode cX9_nextToken 39 = .ok (.iadd, 1) := by decide +kernel
theorem dX9_nextToken_40 : decode cX9_nextToken 40 = .ok (.putfield 27, 3) := by decide +kernel
theorem dX9_nextToken_43 : decode cX9_nextToken 43 = .ok (.goto (-35), 3) := by decide +kernel
theorem dX9_nextToken_46 : decode cX9_nextToken 46 = .ok (.aload_n 0, 1) := by decide +kernel
theorem dX9_nextToken_47 : decode cX9_nextToken 47 = .ok (.aload_n 0, 1) := by decide +kernel
theorem dX9_nextToken_48 : decode cX9_nextToken 48 = .ok (.getfield 27, 3) := by decide +kernel
theorem dX9_nextToken_51 : decode cX9_nextToken 51 = .ok (.putfield 30, 3) := by decide +kernel
theorem dX9_nextToken_54 : decode cX9_nextToken 54 = .ok (.aload_n 0, 1) := by decide +kernel
theorem dX9_nextToken_55 : decode cX9_nextToken 55 = .ok (.iconst 0, 1) := by decide +kernel
theorem dX9_nextToken_56 : decode cX9_nextToken 56 = .ok (.putfield 24, 3) := by decide +kernel
theorem dX9_nextToken_59 : decode cX9_nextToken 59 = .ok (.aload_n 0, 1) := by decide +kernel
theorem dX9_nextToken_60 : decode cX9_nextToken 60 = .ok (.getfield 27, 3) := by decide +kernel
theorem dX9_nextToken_63 : decode cX9_nextToken 63 = .ok (.aload_n 0, 1) := by decide +kernel
theorem dX9_nextToken_64 : decode cX9_nextToken 64 = .ok (.getfield 15, 3) := by decide +kernel
theorem dX9_nextToken_67 : decode cX9_nextToken 67 = .ok (.if_icmp .ge 29, 3) := by decide +kernel
theorem dX9_nextToken_70 : decode cX9_nextToken 70 = .ok (.aload_n 0, 1) := by decide +kernel
theorem dX9_nextToken_71 : decode cX9_nextToken 71 = .ok (.aload_n 0, 1) := by decide +kernel
theorem dX9_nextToken_72 : decode cX9_nextToken 72 = .ok (.getfield 9, 3) := by decide +kernel
theorem dX9_nextToken_75 : decode cX9_nextToken 75 = .ok (.aload_n 0, 1) := by decide +kernel
theorem dX9_nextToken_76 : decode cX9_nextToken 76 = .ok (.getfield 27, 3) := by decide +kernel
theorem dX9_nextToken_79 : decode cX9_nextToken 79 = .ok (.iaload, 1) := by decide +kernel
theorem dX9_nextToken_80 : decode cX9_nextToken 80 = .ok (.invokestatic 33, 3) := by decide +kernel
theorem dX9_nextToken_83 : decode cX9_nextToken 83 = .ok (.putfield 24, 3) := by decide +kernel
theorem dX9_nextToken_86 : decode cX9_nextToken 86 = .ok (.aload_n 0, 1) := by decide +kernel
theorem dX9_nextToken_87 : decode cX9_nextToken 87 = .ok (.dup, 1) := by decide +kernel
theorem dX9_nextToken_88 : decode cX9_nextToken 88 = .ok (.getfield 30, 3) := by decide +kernel
theorem dX9_nextToken_91 : decode cX9_nextToken 91 = .ok (.iconst 1, 1) := by decide +kernel
theorem dX9_nextToken_92 : decode cX9_nextToken 92 = .ok (.iadd, 1) := by decide +kernel
theorem dX9_nextToken_93 : decode cX9_nextToken 93 = .ok (.putfield 30, 3) := by decide +kernel
theorem dX9_nextToken_96 : decode cX9_nextToken 96 = .ok (.aload_n 0, 1) := by decide +kernel
theorem dX9_nextToken_97 : decode cX9_nextToken 97 = .ok (.getfield 24, 3) := by decide +kernel
theorem dX9_nextToken_100 : decode cX9_nextToken 100 = .ok (.iconst 1, 1) := by decide +kernel
theorem dX9_nextToken_101 : decode cX9_nextToken 101 = .ok (.if_icmp .eq 11, 3) := by decide +kernel
theorem dX9_nextToken_104 : decode cX9_nextToken 104 = .ok (.aload_n 0, 1) := by decide +kernel
theorem dX9_nextToken_105 : decode cX9_nextToken 105 = .ok (.getfield 24, 3) := by decide +kernel
theorem dX9_nextToken_108 : decode cX9_nextToken 108 = .ok (.iconst 2, 1) := by decide +kernel
theorem dX9_nextToken_109 : decode cX9_nextToken 109 = .ok (.if_icmp .ne 46, 3) := by decide +kernel
theorem dX9_nextToken_112 : decode cX9_nextToken 112 = .ok (.aload_n 0, 1) := by decide +kernel
theorem dX9_nextToken_113 : decode cX9_nextToken 113 = .ok (.getfield 30, 3) := by decide +kernel
theorem dX9_nextToken_116 : decode cX9_nextToken 116 = .ok (.aload_n 0, 1) := by decide +kernel
theorem dX9_nextToken_117 : decode cX9_nextToken 117 = .ok (.getfield 15, 3) := by decide +kernel
theorem dX9_nextToken_120 : decode cX9_nextToken 120 = .ok (.if_icmp .ge 35, 3) := by decide +kernel
theorem dX9_nextToken_123 : decode cX9_nextToken 123 = .ok (.aload_n 0, 1) := by decide +kernel
theorem dX9_nextToken_124 : decode cX9_nextToken 124 = .ok (.getfield 9, 3) := by decide +kernel
theorem dX9_nextToken_127 : decode cX9_nextToken 127 = .ok (.aload_n 0, 1) := by decide +kernel
theorem dX9_nextToken_128 : decode cX9_nextToken 128 = .ok (.getfield 30, 3) := by decide +kernel
theorem dX9_nextToken_131 : decode cX9_nextToken 131 = .ok (.iaload, 1) := by decide +kernel
theorem dX9_nextToken_132 : decode cX9_nextToken 132 = .ok (.invokestatic 33, 3) := by decide +kernel
theorem dX9_nextToken_135 : decode cX9_nextToken 135 = .ok (.aload_n 0, 1) := by decide +kernel
theorem dX9_nextToken_136 : decode cX9_nextToken 136 = .ok (.getfield 24, 3) := by decide +kernel
theorem dX9_nextToken_139 : decode cX9_nextToken 139 = .ok (.if_icmp .ne 16, 3) := by decide +kernel
theorem dX9_nextToken_142 : decode cX9_nextToken 142 = .ok (.aload_n 0, 1) := by decide +kernel
theorem dX9_nextToken_143 : decode cX9_nextToken 143 = .ok (.dup, 1) := by decide +kernel
theorem dX9_nextToken_144 : decode cX9_nextToken 144 = .ok (.getfield 30, 3) := by decide +kernel
theorem dX9_nextToken_147 : decode cX9_nextToken 147 = .ok (.iconst 1, 1) := by decide +kernel
theorem dX9_nextToken_148 : decode cX9_nextToken 148 = .ok (.iadd, 1) := by decide +kernel
theorem dX9_nextToken_149 : decode cX9_nextToken 149 = .ok (.putfield 30, 3) := by decide +kernel
theorem dX9_nextToken_152 : decode cX9_nextToken 152 = .ok (.goto (-56), 3) := by decide +kernel
theorem dX9_nextToken_155 : decode cX9_nextToken 155 = .ok (.aload_n 0, 1) := by decide +kernel
theorem dX9_nextToken_156 : decode cX9_nextToken 156 = .ok (.getfield 24, 3) := by decide +kernel
theorem dX9_nextToken_159 : decode cX9_nextToken 159 = .ok (.iconst 2, 1) := by decide +kernel
theorem dX9_nextToken_160 : decode cX9_nextToken 160 = .ok (.if_icmp .ne 21, 3) := by decide +kernel
theorem dX9_nextToken_163 : decode cX9_nextToken 163 = .ok (.aload_n 0, 1) := by decide +kernel
theorem dX9_nextToken_164 : decode cX9_nextToken 164 = .ok (.getfield 30, 3) := by decide +kernel
theorem dX9_nextToken_167 : decode cX9_nextToken 167 = .ok (.aload_n 0, 1) := by decide +kernel
theorem dX9_nextToken_168 : decode cX9_nextToken 168 = .ok (.getfield 27, 3) := by decide +kernel
theorem dX9_nextToken_171 : decode cX9_nextToken 171 = .ok (.isub, 1) := by decide +kernel
theorem dX9_nextToken_172 : decode cX9_nextToken 172 = .ok (.iconst 3, 1) := by decide +kernel
theorem dX9_nextToken_173 : decode cX9_nextToken 173 = .ok (.if_icmp .le 8, 3) := by decide +kernel
theorem dX9_nextToken_176 : decode cX9_nextToken 176 = .ok (.aload_n 0, 1) := by decide +kernel
theorem dX9_nextToken_177 : decode cX9_nextToken 177 = .ok (.iconst 4, 1) := by decide +kernel
theorem dX9_nextToken_178 : decode cX9_nextToken 178 = .ok (.putfield 24, 3) := by decide +kernel
theorem dX9_nextToken_181 : decode cX9_nextToken 181 = .ok (.return_, 1) := by decide +kernel
theorem dX9_begunBy_0 : decode cX9_begunBy 0 = .ok (.iload_n 0, 1) := by decide +kernel
theorem dX9_begunBy_1 : decode cX9_begunBy 1 = .ok (.bipush 97, 2) := by decide +kernel
theorem dX9_begunBy_3 : decode cX9_begunBy 3 = .ok (.if_icmp .lt 11, 3) := by decide +kernel
theorem dX9_begunBy_6 : decode cX9_begunBy 6 = .ok (.iload_n 0, 1) := by decide +kernel
theorem dX9_begunBy_7 : decode cX9_begunBy 7 = .ok (.bipush 122, 2) := by decide +kernel
theorem dX9_begunBy_9 : decode cX9_begunBy 9 = .ok (.if_icmp .gt 5, 3) := by decide +kernel
theorem dX9_begunBy_12 : decode cX9_begunBy 12 = .ok (.iconst 1, 1) := by decide +kernel
theorem dX9_begunBy_13 : decode cX9_begunBy 13 = .ok (.ireturn, 1) := by decide +kernel
theorem dX9_begunBy_14 : decode cX9_begunBy 14 = .ok (.iload_n 0, 1) := by decide +kernel
theorem dX9_begunBy_15 : decode cX9_begunBy 15 = .ok (.bipush 48, 2) := by decide +kernel
theorem dX9_begunBy_17 : decode cX9_begunBy 17 = .ok (.if_icmp .lt 11, 3) := by decide +kernel
theorem dX9_begunBy_20 : decode cX9_begunBy 20 = .ok (.iload_n 0, 1) := by decide +kernel
theorem dX9_begunBy_21 : decode cX9_begunBy 21 = .ok (.bipush 57, 2) := by decide +kernel
theorem dX9_begunBy_23 : decode cX9_begunBy 23 = .ok (.if_icmp .gt 5, 3) := by decide +kernel
theorem dX9_begunBy_26 : decode cX9_begunBy 26 = .ok (.iconst 2, 1) := by decide +kernel
theorem dX9_begunBy_27 : decode cX9_begunBy 27 = .ok (.ireturn, 1) := by decide +kernel
theorem dX9_begunBy_28 : decode cX9_begunBy 28 = .ok (.iload_n 0, 1) := by decide +kernel
theorem dX9_begunBy_29 : decode cX9_begunBy 29 = .ok (.bipush 59, 2) := by decide +kernel
theorem dX9_begunBy_31 : decode cX9_begunBy 31 = .ok (.if_icmp .ne 7, 3) := by decide +kernel
theorem dX9_begunBy_34 : decode cX9_begunBy 34 = .ok (.iconst 3, 1) := by decide +kernel
theorem dX9_begunBy_35 : decode cX9_begunBy 35 = .ok (.goto 4, 3) := by decide +kernel
theorem dX9_begunBy_38 : decode cX9_begunBy 38 = .ok (.iconst 4, 1) := by decide +kernel
theorem dX9_begunBy_39 : decode cX9_begunBy 39 = .ok (.ireturn, 1) := by decide +kernel
theorem dX9_number_0 : decode cX9_number 0 = .ok (.aload_n 0, 1) := by decide +kernel
theorem dX9_number_1 : decode cX9_number 1 = .ok (.getfield 24, 3) := by decide +kernel
theorem dX9_number_4 : decode cX9_number 4 = .ok (.iconst 2, 1) := by decide +kernel
theorem dX9_number_5 : decode cX9_number 5 = .ok (.if_icmp .eq 5, 3) := by decide +kernel
theorem dX9_number_8 : decode cX9_number 8 = .ok (.iconst (-1), 1) := by decide +kernel
theorem dX9_number_9 : decode cX9_number 9 = .ok (.ireturn, 1) := by decide +kernel
theorem dX9_number_10 : decode cX9_number 10 = .ok (.iconst 0, 1) := by decide +kernel
theorem dX9_number_11 : decode cX9_number 11 = .ok (.istore_n 1, 1) := by decide +kernel
theorem dX9_number_12 : decode cX9_number 12 = .ok (.aload_n 0, 1) := by decide +kernel
theorem dX9_number_13 : decode cX9_number 13 = .ok (.getfield 27, 3) := by decide +kernel
theorem dX9_number_16 : decode cX9_number 16 = .ok (.istore_n 2, 1) := by decide +kernel
theorem dX9_number_17 : decode cX9_number 17 = .ok (.iload_n 2, 1) := by decide +kernel
theorem dX9_number_18 : decode cX9_number 18 = .ok (.aload_n 0, 1) := by decide +kernel
theorem dX9_number_19 : decode cX9_number 19 = .ok (.getfield 30, 3) := by decide +kernel
theorem dX9_number_22 : decode cX9_number 22 = .ok (.if_icmp .ge 24, 3) := by decide +kernel
theorem dX9_number_25 : decode cX9_number 25 = .ok (.bipush 10, 2) := by decide +kernel
theorem dX9_number_27 : decode cX9_number 27 = .ok (.iload_n 1, 1) := by decide +kernel
theorem dX9_number_28 : decode cX9_number 28 = .ok (.imul, 1) := by decide +kernel
theorem dX9_number_29 : decode cX9_number 29 = .ok (.aload_n 0, 1) := by decide +kernel
theorem dX9_number_30 : decode cX9_number 30 = .ok (.getfield 9, 3) := by decide +kernel
theorem dX9_number_33 : decode cX9_number 33 = .ok (.iload_n 2, 1) := by decide +kernel
theorem dX9_number_34 : decode cX9_number 34 = .ok (.iaload, 1) := by decide +kernel
theorem dX9_number_35 : decode cX9_number 35 = .ok (.iadd, 1) := by decide +kernel
theorem dX9_number_36 : decode cX9_number 36 = .ok (.bipush 48, 2) := by decide +kernel
theorem dX9_number_38 : decode cX9_number 38 = .ok (.isub, 1) := by decide +kernel
theorem dX9_number_39 : decode cX9_number 39 = .ok (.istore_n 1, 1) := by decide +kernel
theorem dX9_number_40 : decode cX9_number 40 = .ok (.iinc 2 1, 3) := by decide +kernel
theorem dX9_number_43 : decode cX9_number 43 = .ok (.goto (-26), 3) := by decide +kernel
theorem dX9_number_46 : decode cX9_number 46 = .ok (.iload_n 1, 1) := by decide +kernel
theorem dX9_number_47 : decode cX9_number 47 = .ok (.ireturn, 1) := by decide +kernel
theorem dX9_isWord_0 : decode cX9_isWord 0 = .ok (.aload_n 0, 1) := by decide +kernel
theorem dX9_isWord_1 : decode cX9_isWord 1 = .ok (.getfield 24, 3) := by decide +kernel
theorem dX9_isWord_4 : decode cX9_isWord 4 = .ok (.iconst 1, 1) := by decide +kernel
theorem dX9_isWord_5 : decode cX9_isWord 5 = .ok (.if_icmp .ne 19, 3) := by decide +kernel
theorem dX9_isWord_8 : decode cX9_isWord 8 = .ok (.aload_n 0, 1) := by decide +kernel
theorem dX9_isWord_9 : decode cX9_isWord 9 = .ok (.getfield 30, 3) := by decide +kernel
theorem dX9_isWord_12 : decode cX9_isWord 12 = .ok (.aload_n 0, 1) := by decide +kernel
theorem dX9_isWord_13 : decode cX9_isWord 13 = .ok (.getfield 27, 3) := by decide +kernel
theorem dX9_isWord_16 : decode cX9_isWord 16 = .ok (.isub, 1) := by decide +kernel
theorem dX9_isWord_17 : decode cX9_isWord 17 = .ok (.aload_n 1, 1) := by decide +kernel
theorem dX9_isWord_18 : decode cX9_isWord 18 = .ok (.invokevirtual 37, 3) := by decide +kernel
theorem dX9_isWord_21 : decode cX9_isWord 21 = .ok (.if_icmp .eq 5, 3) := by decide +kernel
theorem dX9_isWord_24 : decode cX9_isWord 24 = .ok (.iconst 0, 1) := by decide +kernel
theorem dX9_isWord_25 : decode cX9_isWord 25 = .ok (.ireturn, 1) := by decide +kernel
theorem dX9_isWord_26 : decode cX9_isWord 26 = .ok (.iconst 0, 1) := by decide +kernel
theorem dX9_isWord_27 : decode cX9_isWord 27 = .ok (.istore_n 2, 1) := by decide +kernel
theorem dX9_isWord_28 : decode cX9_isWord 28 = .ok (.iload_n 2, 1) := by decide +kernel
theorem dX9_isWord_29 : decode cX9_isWord 29 = .ok (.aload_n 1, 1) := by decide +kernel
theorem dX9_isWord_30 : decode cX9_isWord 30 = .ok (.invokevirtual 37, 3) := by decide +kernel
theorem dX9_isWord_33 : decode cX9_isWord 33 = .ok (.if_icmp .ge 30, 3) := by decide +kernel
theorem dX9_isWord_36 : decode cX9_isWord 36 = .ok (.aload_n 0, 1) := by decide +kernel
theorem dX9_isWord_37 : decode cX9_isWord 37 = .ok (.getfield 9, 3) := by decide +kernel
theorem dX9_isWord_40 : decode cX9_isWord 40 = .ok (.aload_n 0, 1) := by decide +kernel
theorem dX9_isWord_41 : decode cX9_isWord 41 = .ok (.getfield 27, 3) := by decide +kernel
theorem dX9_isWord_44 : decode cX9_isWord 44 = .ok (.iload_n 2, 1) := by decide +kernel
theorem dX9_isWord_45 : decode cX9_isWord 45 = .ok (.iadd, 1) := by decide +kernel
theorem dX9_isWord_46 : decode cX9_isWord 46 = .ok (.iaload, 1) := by decide +kernel
theorem dX9_isWord_47 : decode cX9_isWord 47 = .ok (.aload_n 1, 1) := by decide +kernel
theorem dX9_isWord_48 : decode cX9_isWord 48 = .ok (.iload_n 2, 1) := by decide +kernel
theorem dX9_isWord_49 : decode cX9_isWord 49 = .ok (.invokevirtual 43, 3) := by decide +kernel
theorem dX9_isWord_52 : decode cX9_isWord 52 = .ok (.if_icmp .eq 5, 3) := by decide +kernel
theorem dX9_isWord_55 : decode cX9_isWord 55 = .ok (.iconst 0, 1) := by decide +kernel
theorem dX9_isWord_56 : decode cX9_isWord 56 = .ok (.ireturn, 1) := by decide +kernel
theorem dX9_isWord_57 : decode cX9_isWord 57 = .ok (.iinc 2 1, 3) := by decide +kernel
theorem dX9_isWord_60 : decode cX9_isWord 60 = .ok (.goto (-32), 3) := by decide +kernel
theorem dX9_isWord_63 : decode cX9_isWord 63 = .ok (.iconst 1, 1) := by decide +kernel
theorem dX9_isWord_64 : decode cX9_isWord 64 = .ok (.ireturn, 1) := by decide +kernel
theorem dX10_init_0 : decode cX10_init 0 = .ok (.aload_n 0, 1) := by decide +kernel
theorem dX10_init_1 : decode cX10_init 1 = .ok (.invokespecial 1, 3) := by decide +kernel
theorem dX10_init_4 : decode cX10_init 4 = .ok (.return_, 1) := by decide +kernel
theorem dX10_reach_0 : decode cX10_reach 0 = .ok (.iconst 1, 1) := by decide +kernel
theorem dX10_reach_1 : decode cX10_reach 1 = .ok (.ireturn, 1) := by decide +kernel
theorem dX11_init_0 : decode cX11_init 0 = .ok (.aload_n 0, 1) := by decide +kernel
theorem dX11_init_1 : decode cX11_init 1 = .ok (.invokespecial 1, 3) := by decide +kernel
theorem dX11_init_4 : decode cX11_init 4 = .ok (.iconst 5, 1) := by decide +kernel
theorem dX11_init_5 : decode cX11_init 5 = .ok (.anewarray 7, 3) := by decide +kernel
theorem dX11_init_8 : decode cX11_init 8 = .ok (.dup, 1) := by decide +kernel
theorem dX11_init_9 : decode cX11_init 9 = .ok (.iconst 0, 1) := by decide +kernel
theorem dX11_init_10 : decode cX11_init 10 = .ok (.new 7, 3) := by decide +kernel
theorem dX11_init_13 : decode cX11_init 13 = .ok (.dup, 1) := by decide +kernel
theorem dX11_init_14 : decode cX11_init 14 = .ok (.invokespecial 9, 3) := by decide +kernel
theorem dX11_init_17 : decode cX11_init 17 = .ok (.aastore, 1) := by decide +kernel
theorem dX11_init_18 : decode cX11_init 18 = .ok (.dup, 1) := by decide +kernel
theorem dX11_init_19 : decode cX11_init 19 = .ok (.iconst 1, 1) := by decide +kernel
theorem dX11_init_20 : decode cX11_init 20 = .ok (.new 10, 3) := by decide +kernel
theorem dX11_init_23 : decode cX11_init 23 = .ok (.dup, 1) := by decide +kernel
theorem dX11_init_24 : decode cX11_init 24 = .ok (.invokespecial 12, 3) := by decide +kernel
theorem dX11_init_27 : decode cX11_init 27 = .ok (.aastore, 1) := by decide +kernel
theorem dX11_init_28 : decode cX11_init 28 = .ok (.dup, 1) := by decide +kernel
theorem dX11_init_29 : decode cX11_init 29 = .ok (.iconst 2, 1) := by decide +kernel
theorem dX11_init_30 : decode cX11_init 30 = .ok (.new 13, 3) := by decide +kernel
theorem dX11_init_33 : decode cX11_init 33 = .ok (.dup, 1) := by decide +kernel
theorem dX11_init_34 : decode cX11_init 34 = .ok (.invokespecial 15, 3) := by decide +kernel
theorem dX11_init_37 : decode cX11_init 37 = .ok (.aastore, 1) := by decide +kernel
theorem dX11_init_38 : decode cX11_init 38 = .ok (.dup, 1) := by decide +kernel
theorem dX11_init_39 : decode cX11_init 39 = .ok (.iconst 3, 1) := by decide +kernel
theorem dX11_init_40 : decode cX11_init 40 = .ok (.new 16, 3) := by decide +kernel
theorem dX11_init_43 : decode cX11_init 43 = .ok (.dup, 1) := by decide +kernel
theorem dX11_init_44 : decode cX11_init 44 = .ok (.invokespecial 18, 3) := by decide +kernel
theorem dX11_init_47 : decode cX11_init 47 = .ok (.aastore, 1) := by decide +kernel
theorem dX11_init_48 : decode cX11_init 48 = .ok (.dup, 1) := by decide +kernel
theorem dX11_init_49 : decode cX11_init 49 = .ok (.iconst 4, 1) := by decide +kernel
theorem dX11_init_50 : decode cX11_init 50 = .ok (.new 19, 3) := by decide +kernel
theorem dX11_init_53 : decode cX11_init 53 = .ok (.dup, 1) := by decide +kernel
theorem dX11_init_54 : decode cX11_init 54 = .ok (.invokespecial 21, 3) := by decide +kernel
theorem dX11_init_57 : decode cX11_init 57 = .ok (.aastore, 1) := by decide +kernel
theorem dX11_init_58 : decode cX11_init 58 = .ok (.astore_n 1, 1) := by decide +kernel
theorem dX11_init_59 : decode cX11_init 59 = .ok (.aload_n 0, 1) := by decide +kernel
theorem dX11_init_60 : decode cX11_init 60 = .ok (.new 22, 3) := by decide +kernel
theorem dX11_init_63 : decode cX11_init 63 = .ok (.dup, 1) := by decide +kernel
theorem dX11_init_64 : decode cX11_init 64 = .ok (.aload_n 1, 1) := by decide +kernel
theorem dX11_init_65 : decode cX11_init 65 = .ok (.invokespecial 24, 3) := by decide +kernel
theorem dX11_init_68 : decode cX11_init 68 = .ok (.putfield 27, 3) := by decide +kernel
theorem dX11_init_71 : decode cX11_init 71 = .ok (.aload_n 0, 1) := by decide +kernel
theorem dX11_init_72 : decode cX11_init 72 = .ok (.iconst 2, 1) := by decide +kernel
theorem dX11_init_73 : decode cX11_init 73 = .ok (.anewarray 22, 3) := by decide +kernel
theorem dX11_init_76 : decode cX11_init 76 = .ok (.putfield 33, 3) := by decide +kernel
theorem dX11_init_79 : decode cX11_init 79 = .ok (.iconst 0, 1) := by decide +kernel
theorem dX11_init_80 : decode cX11_init 80 = .ok (.istore_n 2, 1) := by decide +kernel
theorem dX11_init_81 : decode cX11_init 81 = .ok (.iload_n 2, 1) := by decide +kernel
theorem dX11_init_82 : decode cX11_init 82 = .ok (.iconst 2, 1) := by decide +kernel
theorem dX11_init_83 : decode cX11_init 83 = .ok (.if_icmp .ge 23, 3) := by decide +kernel
theorem dX11_init_86 : decode cX11_init 86 = .ok (.aload_n 0, 1) := by decide +kernel
theorem dX11_init_87 : decode cX11_init 87 = .ok (.getfield 33, 3) := by decide +kernel
theorem dX11_init_90 : decode cX11_init 90 = .ok (.iload_n 2, 1) := by decide +kernel
theorem dX11_init_91 : decode cX11_init 91 = .ok (.new 22, 3) := by decide +kernel
theorem dX11_init_94 : decode cX11_init 94 = .ok (.dup, 1) := by decide +kernel
theorem dX11_init_95 : decode cX11_init 95 = .ok (.aload_n 1, 1) := by decide +kernel
theorem dX11_init_96 : decode cX11_init 96 = .ok (.invokespecial 24, 3) := by decide +kernel
theorem dX11_init_99 : decode cX11_init 99 = .ok (.aastore, 1) := by decide +kernel
theorem dX11_init_100 : decode cX11_init 100 = .ok (.iinc 2 1, 3) := by decide +kernel
theorem dX11_init_103 : decode cX11_init 103 = .ok (.goto (-22), 3) := by decide +kernel
theorem dX11_init_106 : decode cX11_init 106 = .ok (.aload_n 0, 1) := by decide +kernel
theorem dX11_init_107 : decode cX11_init 107 = .ok (.iconst 2, 1) := by decide +kernel
theorem dX11_init_108 : decode cX11_init 108 = .ok (.newarray .boolean, 2) := by decide +kernel
theorem dX11_init_110 : decode cX11_init 110 = .ok (.putfield 37, 3) := by decide +kernel
theorem dX11_init_113 : decode cX11_init 113 = .ok (.aload_n 0, 1) := by decide +kernel
theorem dX11_init_114 : decode cX11_init 114 = .ok (.new 41, 3) := by decide +kernel
theorem dX11_init_117 : decode cX11_init 117 = .ok (.dup, 1) := by decide +kernel
theorem dX11_init_118 : decode cX11_init 118 = .ok (.aload_n 0, 1) := by decide +kernel
theorem dX11_init_119 : decode cX11_init 119 = .ok (.getfield 27, 3) := by decide +kernel
theorem dX11_init_122 : decode cX11_init 122 = .ok (.getfield 43, 3) := by decide +kernel
theorem dX11_init_125 : decode cX11_init 125 = .ok (.new 47, 3) := by decide +kernel
theorem dX11_init_128 : decode cX11_init 128 = .ok (.dup, 1) := by decide +kernel
theorem dX11_init_129 : decode cX11_init 129 = .ok (.aload_n 1, 1) := by decide +kernel
theorem dX11_init_130 : decode cX11_init 130 = .ok (.invokespecial 49, 3) := by decide +kernel
theorem dX11_init_133 : decode cX11_init 133 = .ok (.invokespecial 50, 3) := by decide +kernel
theorem dX11_init_136 : decode cX11_init 136 = .ok (.putfield 53, 3) := by decide +kernel
theorem dX11_init_139 : decode cX11_init 139 = .ok (.aload_n 0, 1) := by decide +kernel
theorem dX11_init_140 : decode cX11_init 140 = .ok (.new 57, 3) := by decide +kernel
theorem dX11_init_143 : decode cX11_init 143 = .ok (.dup, 1) := by decide +kernel
theorem dX11_init_144 : decode cX11_init 144 = .ok (.invokespecial 59, 3) := by decide +kernel
theorem dX11_init_147 : decode cX11_init 147 = .ok (.putfield 60, 3) := by decide +kernel
theorem dX11_init_150 : decode cX11_init 150 = .ok (.aload_n 0, 1) := by decide +kernel
theorem dX11_init_151 : decode cX11_init 151 = .ok (.new 64, 3) := by decide +kernel
theorem dX11_init_154 : decode cX11_init 154 = .ok (.dup, 1) := by decide +kernel
theorem dX11_init_155 : decode cX11_init 155 = .ok (.aload_n 0, 1) := by decide +kernel
theorem dX11_init_156 : decode cX11_init 156 = .ok (.getfield 60, 3) := by decide +kernel
theorem dX11_init_159 : decode cX11_init 159 = .ok (.new 47, 3) := by decide +kernel
theorem dX11_init_162 : decode cX11_init 162 = .ok (.dup, 1) := by decide +kernel
theorem dX11_init_163 : decode cX11_init 163 = .ok (.aload_n 1, 1) := by decide +kernel
theorem dX11_init_164 : decode cX11_init 164 = .ok (.invokespecial 49, 3) := by decide +kernel
theorem dX11_init_167 : decode cX11_init 167 = .ok (.invokespecial 66, 3) := by decide +kernel
theorem dX11_init_170 : decode cX11_init 170 = .ok (.putfield 69, 3) := by decide +kernel
theorem dX11_init_173 : decode cX11_init 173 = .ok (.aload_n 0, 1) := by decide +kernel
theorem dX11_init_174 : decode cX11_init 174 = .ok (.iconst 3, 1) := by decide +kernel
theorem dX11_init_175 : decode cX11_init 175 = .ok (.newarray .int, 2) := by decide +kernel
theorem dX11_init_177 : decode cX11_init 177 = .ok (.putfield 73, 3) := by decide +kernel
theorem dX11_init_180 : decode cX11_init 180 = .ok (.aload_n 0, 1) := by decide +kernel
theorem dX11_init_181 : decode cX11_init 181 = .ok (.lconst 0, 1) := by decide +kernel
theorem dX11_init_182 : decode cX11_init 182 = .ok (.putfield 77, 3) := by decide +kernel
theorem dX11_init_185 : decode cX11_init 185 = .ok (.aload_n 0, 1) := by decide +kernel
theorem dX11_init_186 : decode cX11_init 186 = .ok (.lconst 1, 1) := by decide +kernel
theorem dX11_init_187 : decode cX11_init 187 = .ok (.putfield 81, 3) := by decide +kernel
theorem dX11_init_190 : decode cX11_init 190 = .ok (.return_, 1) := by decide +kernel
theorem dX11_ring_0 : decode cX11_ring 0 = .ok (.iload_n 1, 1) := by decide +kernel
theorem dX11_ring_1 : decode cX11_ring 1 = .ok (.iconst 4, 1) := by decide +kernel
theorem dX11_ring_2 : decode cX11_ring 2 = .ok (.bipush 24, 2) := by decide +kernel
theorem dX11_ring_4 : decode cX11_ring 4 = .ok (.invokestatic 84, 3) := by decide +kernel
theorem dX11_ring_7 : decode cX11_ring 7 = .ok (.ifCond .ne 11, 3) := by decide +kernel
theorem dX11_ring_10 : decode cX11_ring 10 = .ok (.aload_n 0, 1) := by decide +kernel
theorem dX11_ring_11 : decode cX11_ring 11 = .ok (.iconst 0, 1) := by decide +kernel
theorem dX11_ring_12 : decode cX11_ring 12 = .ok (.bipush (-2), 2) := by decide +kernel
theorem dX11_ring_14 : decode cX11_ring 14 = .ok (.invokevirtual 88, 3) := by decide +kernel
theorem dX11_ring_17 : decode cX11_ring 17 = .ok (.ireturn, 1) := by decide +kernel
theorem dX11_ring_18 : decode cX11_ring 18 = .ok (.aload_n 0, 1) := by decide +kernel
theorem dX11_ring_19 : decode cX11_ring 19 = .ok (.getfield 27, 3) := by decide +kernel
theorem dX11_ring_22 : decode cX11_ring 22 = .ok (.getfield 43, 3) := by decide +kernel
theorem dX11_ring_25 : decode cX11_ring 25 = .ok (.getfield 92, 3) := by decide +kernel
theorem dX11_ring_28 : decode cX11_ring 28 = .ok (.istore_n 2, 1) := by decide +kernel
theorem dX11_ring_29 : decode cX11_ring 29 = .ok (.aload_n 0, 1) := by decide +kernel
theorem dX11_ring_30 : decode cX11_ring 30 = .ok (.getfield 27, 3) := by decide +kernel
theorem dX11_ring_33 : decode cX11_ring 33 = .ok (.getfield 43, 3) := by decide +kernel
theorem dX11_ring_36 : decode cX11_ring 36 = .ok (.iload_n 1, 1) := by decide +kernel
theorem dX11_ring_37 : decode cX11_ring 37 = .ok (.invokevirtual 96, 3) := by decide +kernel
theorem dX11_ring_40 : decode cX11_ring 40 = .ok (.aload_n 0, 1) := by decide +kernel
theorem dX11_ring_41 : decode cX11_ring 41 = .ok (.getfield 27, 3) := by decide +kernel
theorem dX11_ring_44 : decode cX11_ring 44 = .ok (.invokevirtual 100, 3) := by decide +kernel
theorem dX11_ring_47 : decode cX11_ring 47 = .ok (.iload_n 2, 1) := by decide +kernel
theorem dX11_ring_48 : decode cX11_ring 48 = .ok (.ireturn, 1) := by decide +kernel
theorem dX11_step_0 : decode cX11_step 0 = .ok (.iload_n 1, 1) := by decide +kernel
theorem dX11_step_1 : decode cX11_step 1 = .ok (.invokestatic 103, 3) := by decide +kernel
theorem dX11_step_4 : decode cX11_step 4 = .ok (.ifCond .eq 13, 3) := by decide +kernel
theorem dX11_step_7 : decode cX11_step 7 = .ok (.iload_n 2, 1) := by decide +kernel
theorem dX11_step_8 : decode cX11_step 8 = .ok (.iconst 0, 1) := by decide +kernel
theorem dX11_step_9 : decode cX11_step 9 = .ok (.bipush 9, 2) := by decide +kernel
theorem dX11_step_11 : decode cX11_step 11 = .ok (.invokestatic 84, 3) := by decide +kernel
theorem dX11_step_14 : decode cX11_step 14 = .ok (.ifCond .ne 11, 3) := by decide +kernel
theorem dX11_step_17 : decode cX11_step 17 = .ok (.aload_n 0, 1) := by decide +kernel
theorem dX11_step_18 : decode cX11_step 18 = .ok (.iconst 0, 1) := by decide +kernel
theorem dX11_step_19 : decode cX11_step 19 = .ok (.bipush (-2), 2) := by decide +kernel
theorem dX11_step_21 : decode cX11_step 21 = .ok (.invokevirtual 88, 3) := by decide +kernel
theorem dX11_step_24 : decode cX11_step 24 = .ok (.ireturn, 1) := by decide +kernel
theorem dX11_step_25 : decode cX11_step 25 = .ok (.aload_n 0, 1) := by decide +kernel
theorem dX11_step_26 : decode cX11_step 26 = .ok (.getfield 27, 3) := by decide +kernel
theorem dX11_step_29 : decode cX11_step 29 = .ok (.getfield 43, 3) := by decide +kernel
theorem dX11_step_32 : decode cX11_step 32 = .ok (.getfield 107, 3) := by decide +kernel
theorem dX11_step_35 : decode cX11_step 35 = .ok (.iload_n 1, 1) := by decide +kernel
theorem dX11_step_36 : decode cX11_step 36 = .ok (.iaload, 1) := by decide +kernel
theorem dX11_step_37 : decode cX11_step 37 = .ok (.istore_n 3, 1) := by decide +kernel
theorem dX11_step_38 : decode cX11_step 38 = .ok (.aload_n 0, 1) := by decide +kernel
theorem dX11_step_39 : decode cX11_step 39 = .ok (.getfield 27, 3) := by decide +kernel
theorem dX11_step_42 : decode cX11_step 42 = .ok (.getfield 43, 3) := by decide +kernel
theorem dX11_step_45 : decode cX11_step 45 = .ok (.getfield 107, 3) := by decide +kernel
theorem dX11_step_48 : decode cX11_step 48 = .ok (.iload_n 1, 1) := by decide +kernel
theorem dX11_step_49 : decode cX11_step 49 = .ok (.iload_n 2, 1) := by decide +kernel
theorem dX11_step_50 : decode cX11_step 50 = .ok (.iastore, 1) := by decide +kernel
theorem dX11_step_51 : decode cX11_step 51 = .ok (.iload_n 3, 1) := by decide +kernel
theorem dX11_step_52 : decode cX11_step 52 = .ok (.ireturn, 1) := by decide +kernel
theorem dX11_lumps_0 : decode cX11_lumps 0 = .ok (.iload_n 1, 1) := by decide +kernel
theorem dX11_lumps_1 : decode cX11_lumps 1 = .ok (.invokestatic 103, 3) := by decide +kernel
theorem dX11_lumps_4 : decode cX11_lumps 4 = .ok (.ifCond .eq 22, 3) := by decide +kernel
theorem dX11_lumps_7 : decode cX11_lumps 7 = .ok (.aload_n 0, 1) := by decide +kernel
theorem dX11_lumps_8 : decode cX11_lumps 8 = .ok (.iload_n 2, 1) := by decide +kernel
theorem dX11_lumps_9 : decode cX11_lumps 9 = .ok (.invokevirtual 110, 3) := by decide +kernel
theorem dX11_lumps_12 : decode cX11_lumps 12 = .ok (.ifCond .eq 14, 3) := by decide +kernel
theorem dX11_lumps_15 : decode cX11_lumps 15 = .ok (.iload_n 3, 1) := by decide +kernel
theorem dX11_lumps_16 : decode cX11_lumps 16 = .ok (.iconst 0, 1) := by decide +kernel
theorem dX11_lumps_17 : decode cX11_lumps 17 = .ok (.sipush 999, 3) := by decide +kernel
theorem dX11_lumps_20 : decode cX11_lumps 20 = .ok (.invokestatic 84, 3) := by decide +kernel
theorem dX11_lumps_23 : decode cX11_lumps 23 = .ok (.ifCond .ne 11, 3) := by decide +kernel
theorem dX11_lumps_26 : decode cX11_lumps 26 = .ok (.aload_n 0, 1) := by decide +kernel
theorem dX11_lumps_27 : decode cX11_lumps 27 = .ok (.iconst 0, 1) := by decide +kernel
theorem dX11_lumps_28 : decode cX11_lumps 28 = .ok (.bipush (-2), 2) := by decide +kernel
theorem dX11_lumps_30 : decode cX11_lumps 30 = .ok (.invokevirtual 88, 3) := by decide +kernel
theorem dX11_lumps_33 : decode cX11_lumps 33 = .ok (.ireturn, 1) := by decide +kernel
theorem dX11_lumps_34 : decode cX11_lumps 34 = .ok (.aload_n 0, 1) := by decide +kernel
theorem dX11_lumps_35 : decode cX11_lumps 35 = .ok (.getfield 27, 3) := by decide +kernel
theorem dX11_lumps_38 : decode cX11_lumps 38 = .ok (.getfield 43, 3) := by decide +kernel
theorem dX11_lumps_41 : decode cX11_lumps 41 = .ok (.iload_n 1, 1) := by decide +kernel
theorem dX11_lumps_42 : decode cX11_lumps 42 = .ok (.iload_n 2, 1) := by decide +kernel
theorem dX11_lumps_43 : decode cX11_lumps 43 = .ok (.invokevirtual 113, 3) := by decide +kernel
theorem dX11_lumps_46 : decode cX11_lumps 46 = .ok (.istore 4, 2) := by decide +kernel
theorem dX11_lumps_48 : decode cX11_lumps 48 = .ok (.aload_n 0, 1) := by decide +kernel
theorem dX11_lumps_49 : decode cX11_lumps 49 = .ok (.getfield 27, 3) := by decide +kernel
theorem dX11_lumps_52 : decode cX11_lumps 52 = .ok (.getfield 43, 3) := by decide +kernel
theorem dX11_lumps_55 : decode cX11_lumps 55 = .ok (.iload_n 1, 1) := by decide +kernel
theorem dX11_lumps_56 : decode cX11_lumps 56 = .ok (.iload_n 2, 1) := by decide +kernel
theorem dX11_lumps_57 : decode cX11_lumps 57 = .ok (.iload_n 3, 1) := by decide +kernel
theorem dX11_lumps_58 : decode cX11_lumps 58 = .ok (.invokevirtual 116, 3) := by decide +kernel
theorem dX11_lumps_61 : decode cX11_lumps 61 = .ok (.iload 4, 2) := by decide +kernel
theorem dX11_lumps_63 : decode cX11_lumps 63 = .ok (.ireturn, 1) := by decide +kernel
theorem dX11_moon_0 : decode cX11_moon 0 = .ok (.iload_n 1, 1) := by decide +kernel
theorem dX11_moon_1 : decode cX11_moon 1 = .ok (.iconst 0, 1) := by decide +kernel
theorem dX11_moon_2 : decode cX11_moon 2 = .ok (.iconst 4, 1) := by decide +kernel
theorem dX11_moon_3 : decode cX11_moon 3 = .ok (.invokestatic 84, 3) := by decide +kernel
theorem dX11_moon_6 : decode cX11_moon 6 = .ok (.ifCond .eq 31, 3) := by decide +kernel
theorem dX11_moon_9 : decode cX11_moon 9 = .ok (.iload_n 2, 1) := by decide +kernel
theorem dX11_moon_10 : decode cX11_moon 10 = .ok (.iconst 0, 1) := by decide +kernel
theorem dX11_moon_11 : decode cX11_moon 11 = .ok (.iconst 5, 1) := by decide +kernel
theorem dX11_moon_12 : decode cX11_moon 12 = .ok (.invokestatic 84, 3) := by decide +kernel
theorem dX11_moon_15 : decode cX11_moon 15 = .ok (.ifCond .eq 22, 3) := by decide +kernel
theorem dX11_moon_18 : decode cX11_moon 18 = .ok (.aload_n 0, 1) := by decide +kernel
theorem dX11_moon_19 : decode cX11_moon 19 = .ok (.iload_n 3, 1) := by decide +kernel
theorem dX11_moon_20 : decode cX11_moon 20 = .ok (.invokevirtual 110, 3) := by decide +kernel
theorem dX11_moon_23 : decode cX11_moon 23 = .ok (.ifCond .eq 14, 3) := by decide +kernel
theorem dX11_moon_26 : decode cX11_moon 26 = .ok (.iload 4, 2) := by decide +kernel
theorem dX11_moon_28 : decode cX11_moon 28 = .ok (.iconst 0, 1) := by decide +kernel
theorem dX11_moon_29 : decode cX11_moon 29 = .ok (.bipush 9, 2) := by decide +kernel
theorem dX11_moon_31 : decode cX11_moon 31 = .ok (.invokestatic 84, 3) := by decide +kernel
theorem dX11_moon_34 : decode cX11_moon 34 = .ok (.ifCond .ne 11, 3) := by decide +kernel
theorem dX11_moon_37 : decode cX11_moon 37 = .ok (.aload_n 0, 1) := by decide +kernel
theorem dX11_moon_38 : decode cX11_moon 38 = .ok (.iconst 0, 1) := by decide +kernel
theorem dX11_moon_39 : decode cX11_moon 39 = .ok (.bipush (-2), 2) := by decide +kernel
theorem dX11_moon_41 : decode cX11_moon 41 = .ok (.invokevirtual 88, 3) := by decide +kernel
theorem dX11_moon_44 : decode cX11_moon 44 = .ok (.ireturn, 1) := by decide +kernel
theorem dX11_moon_45 : decode cX11_moon 45 = .ok (.aload_n 0, 1) := by decide +kernel
theorem dX11_moon_46 : decode cX11_moon 46 = .ok (.getfield 27, 3) := by decide +kernel
theorem dX11_moon_49 : decode cX11_moon 49 = .ok (.getfield 43, 3) := by decide +kernel
theorem dX11_moon_52 : decode cX11_moon 52 = .ok (.getfield 120, 3) := by decide +kernel
theorem dX11_moon_55 : decode cX11_moon 55 = .ok (.iconst 4, 1) := by decide +kernel
theorem dX11_moon_56 : decode cX11_moon 56 = .ok (.if_icmp .lt 11, 3) := by decide +kernel
theorem dX11_moon_59 : decode cX11_moon 59 = .ok (.aload_n 0, 1) := by decide +kernel
theorem dX11_moon_60 : decode cX11_moon 60 = .ok (.iconst 2, 1) := by decide +kernel
theorem dX11_moon_61 : decode cX11_moon 61 = .ok (.bipush (-4), 2) := by decide +kernel
theorem dX11_moon_63 : decode cX11_moon 63 = .ok (.invokevirtual 88, 3) := by decide +kernel
theorem dX11_moon_66 : decode cX11_moon 66 = .ok (.ireturn, 1) := by decide +kernel
theorem dX11_moon_67 : decode cX11_moon 67 = .ok (.aload_n 0, 1) := by decide +kernel
theorem dX11_moon_68 : decode cX11_moon 68 = .ok (.getfield 27, 3) := by decide +kernel
theorem dX11_moon_71 : decode cX11_moon 71 = .ok (.getfield 43, 3) := by decide +kernel
theorem dX11_moon_74 : decode cX11_moon 74 = .ok (.iload_n 1, 1) := by decide +kernel
theorem dX11_moon_75 : decode cX11_moon 75 = .ok (.iload_n 2, 1) := by decide +kernel
theorem dX11_moon_76 : decode cX11_moon 76 = .ok (.iload_n 3, 1) := by decide +kernel
theorem dX11_moon_77 : decode cX11_moon 77 = .ok (.iload 4, 2) := by decide +kernel
theorem dX11_moon_79 : decode cX11_moon 79 = .ok (.invokevirtual 123, 3) := by decide +kernel
theorem dX11_moon_82 : decode cX11_moon 82 = .ok (.ireturn, 1) := by decide +kernel
theorem dX11_type_0 : decode cX11_type 0 = .ok (.iload_n 3, 1) := by decide +kernel
theorem dX11_type_1 : decode cX11_type 1 = .ok (.iconst 1, 1) := by decide +kernel
theorem dX11_type_2 : decode cX11_type 2 = .ok (.bipush 8, 2) := by decide +kernel
theorem dX11_type_4 : decode cX11_type 4 = .ok (.invokestatic 84, 3) := by decide +kernel
theorem dX11_type_7 : decode cX11_type 7 = .ok (.ifCond .ne 11, 3) := by decide +kernel
theorem dX11_type_10 : decode cX11_type 10 = .ok (.aload_n 0, 1) := by decide +kernel
theorem dX11_type_11 : decode cX11_type 11 = .ok (.iconst 0, 1) := by decide +kernel
theorem dX11_type_12 : decode cX11_type 12 = .ok (.bipush (-2), 2) := by decide +kernel
theorem dX11_type_14 : decode cX11_type 14 = .ok (.invokevirtual 88, 3) := by decide +kernel
theorem dX11_type_17 : decode cX11_type 17 = .ok (.ireturn, 1) := by decide +kernel
theorem dX11_type_18 : decode cX11_type 18 = .ok (.aload_n 0, 1) := by decide +kernel
theorem dX11_type_19 : decode cX11_type 19 = .ok (.getfield 60, 3) := by decide +kernel
theorem dX11_type_22 : decode cX11_type 22 = .ok (.getfield 127, 3) := by decide +kernel
theorem dX11_type_25 : decode cX11_type 25 = .ok (.iload_n 3, 1) := by decide +kernel
theorem dX11_type_26 : decode cX11_type 26 = .ok (.iadd, 1) := by decide +kernel
theorem dX11_type_27 : decode cX11_type 27 = .ok (.sipush 250, 3) := by decide +kernel
theorem dX11_type_30 : decode cX11_type 30 = .ok (.if_icmp .le 11, 3) := by decide +kernel
theorem dX11_type_33 : decode cX11_type 33 = .ok (.aload_n 0, 1) := by decide +kernel
theorem dX11_type_34 : decode cX11_type 34 = .ok (.iconst 2, 1) := by decide +kernel
theorem dX11_type_35 : decode cX11_type 35 = .ok (.bipush (-4), 2) := by decide +kernel
theorem dX11_type_37 : decode cX11_type 37 = .ok (.invokevirtual 88, 3) := by decide +kernel
theorem dX11_type_40 : decode cX11_type 40 = .ok (.ireturn, 1) := by decide +kernel
theorem dX11_type_41 : decode cX11_type 41 = .ok (.aload_n 0, 1) := by decide +kernel
theorem dX11_type_42 : decode cX11_type 42 = .ok (.getfield 60, 3) := by decide +kernel
theorem dX11_type_45 : decode cX11_type 45 = .ok (.lload_n 1, 1) := by decide +kernel
theorem dX11_type_46 : decode cX11_type 46 = .ok (.iload_n 3, 1) := by decide +kernel
theorem dX11_type_47 : decode cX11_type 47 = .ok (.invokevirtual 130, 3) := by decide +kernel
theorem dX11_type_50 : decode cX11_type 50 = .ok (.aload_n 0, 1) := by decide +kernel
theorem dX11_type_51 : decode cX11_type 51 = .ok (.getfield 60, 3) := by decide +kernel
theorem dX11_type_54 : decode cX11_type 54 = .ok (.getfield 127, 3) := by decide +kernel
theorem dX11_type_57 : decode cX11_type 57 = .ok (.ireturn, 1) := by decide +kernel
theorem dX11_clear_0 : decode cX11_clear 0 = .ok (.aload_n 0, 1) := by decide +kernel
theorem dX11_clear_1 : decode cX11_clear 1 = .ok (.getfield 60, 3) := by decide +kernel
theorem dX11_clear_4 : decode cX11_clear 4 = .ok (.getfield 127, 3) := by decide +kernel
theorem dX11_clear_7 : decode cX11_clear 7 = .ok (.istore_n 1, 1) := by decide +kernel
theorem dX11_clear_8 : decode cX11_clear 8 = .ok (.aload_n 0, 1) := by decide +kernel
theorem dX11_clear_9 : decode cX11_clear 9 = .ok (.getfield 60, 3) := by decide +kernel
theorem dX11_clear_12 : decode cX11_clear 12 = .ok (.iconst 0, 1) := by decide +kernel
theorem dX11_clear_13 : decode cX11_clear 13 = .ok (.putfield 127, 3) := by decide +kernel
theorem dX11_clear_16 : decode cX11_clear 16 = .ok (.iload_n 1, 1) := by decide +kernel
theorem dX11_clear_17 : decode cX11_clear 17 = .ok (.ireturn, 1) := by decide +kernel
theorem dX11_read_0 : decode cX11_read 0 = .ok (.aload_n 0, 1) := by decide +kernel
theorem dX11_read_1 : decode cX11_read 1 = .ok (.getfield 69, 3) := by decide +kernel
theorem dX11_read_4 : decode cX11_read 4 = .ok (.invokevirtual 134, 3) := by decide +kernel
theorem dX11_read_7 : decode cX11_read 7 = .ok (.istore_n 1, 1) := by decide +kernel
theorem dX11_read_8 : decode cX11_read 8 = .ok (.iload_n 1, 1) := by decide +kernel
theorem dX11_read_9 : decode cX11_read 9 = .ok (.ifCond .lt 27, 3) := by decide +kernel
theorem dX11_read_12 : decode cX11_read 12 = .ok (.aload_n 0, 1) := by decide +kernel
theorem dX11_read_13 : decode cX11_read 13 = .ok (.getfield 27, 3) := by decide +kernel
theorem dX11_read_16 : decode cX11_read 16 = .ok (.getfield 43, 3) := by decide +kernel
theorem dX11_read_19 : decode cX11_read 19 = .ok (.aload_n 0, 1) := by decide +kernel
theorem dX11_read_20 : decode cX11_read 20 = .ok (.getfield 69, 3) := by decide +kernel
theorem dX11_read_23 : decode cX11_read 23 = .ok (.getfield 138, 3) := by decide +kernel
theorem dX11_read_26 : decode cX11_read 26 = .ok (.invokevirtual 141, 3) := by decide +kernel
theorem dX11_read_29 : decode cX11_read 29 = .ok (.aload_n 0, 1) := by decide +kernel
theorem dX11_read_30 : decode cX11_read 30 = .ok (.getfield 27, 3) := by decide +kernel
theorem dX11_read_33 : decode cX11_read 33 = .ok (.invokevirtual 100, 3) := by decide +kernel
theorem dX11_read_36 : decode cX11_read 36 = .ok (.iload_n 1, 1) := by decide +kernel
theorem dX11_read_37 : decode cX11_read 37 = .ok (.ireturn, 1) := by decide +kernel
theorem dX11_round_0 : decode cX11_round 0 = .ok (.aload_n 0, 1) := by decide +kernel
theorem dX11_round_1 : decode cX11_round 1 = .ok (.getfield 27, 3) := by decide +kernel
theorem dX11_round_4 : decode cX11_round 4 = .ok (.invokevirtual 145, 3) := by decide +kernel
theorem dX11_round_7 : decode cX11_round 7 = .ok (.ireturn, 1) := by decide +kernel
theorem dX11_undo_0 : decode cX11_undo 0 = .ok (.aload_n 0, 1) := by decide +kernel
theorem dX11_undo_1 : decode cX11_undo 1 = .ok (.getfield 27, 3) := by decide +kernel
theorem dX11_undo_4 : decode cX11_undo 4 = .ok (.getfield 148, 3) := by decide +kernel
theorem dX11_undo_7 : decode cX11_undo 7 = .ok (.iconst 1, 1) := by decide +kernel
theorem dX11_undo_8 : decode cX11_undo 8 = .ok (.if_icmp .ge 11, 3) := by decide +kernel
theorem dX11_undo_11 : decode cX11_undo 11 = .ok (.aload_n 0, 1) := by decide +kernel
theorem dX11_undo_12 : decode cX11_undo 12 = .ok (.iconst 1, 1) := by decide +kernel
theorem dX11_undo_13 : decode cX11_undo 13 = .ok (.bipush (-3), 2) := by decide +kernel
theorem dX11_undo_15 : decode cX11_undo 15 = .ok (.invokevirtual 88, 3) := by decide +kernel
theorem dX11_undo_18 : decode cX11_undo 18 = .ok (.ireturn, 1) := by decide +kernel
theorem dX11_undo_19 : decode cX11_undo 19 = .ok (.aload_n 0, 1) := by decide +kernel
theorem dX11_undo_20 : decode cX11_undo 20 = .ok (.getfield 27, 3) := by decide +kernel
theorem dX11_undo_23 : decode cX11_undo 23 = .ok (.invokevirtual 151, 3) := by decide +kernel
theorem dX11_undo_26 : decode cX11_undo 26 = .ok (.iconst 1, 1) := by decide +kernel
theorem dX11_undo_27 : decode cX11_undo 27 = .ok (.ireturn, 1) := by decide +kernel
theorem dX11_there_0 : decode cX11_there 0 = .ok (.iload_n 1, 1) := by decide +kernel
theorem dX11_there_1 : decode cX11_there 1 = .ok (.invokestatic 103, 3) := by decide +kernel
theorem dX11_there_4 : decode cX11_there 4 = .ok (.ifCond .eq 16, 3) := by decide +kernel
theorem dX11_there_7 : decode cX11_there 7 = .ok (.iload_n 2, 1) := by decide +kernel
theorem dX11_there_8 : decode cX11_there 8 = .ok (.iconst (-1), 1) := by decide +kernel
theorem dX11_there_9 : decode cX11_there 9 = .ok (.if_icmp .eq 19, 3) := by decide +kernel
theorem dX11_there_12 : decode cX11_there 12 = .ok (.aload_n 0, 1) := by decide +kernel
theorem dX11_there_13 : decode cX11_there 13 = .ok (.iload_n 2, 1) := by decide +kernel
theorem dX11_there_14 : decode cX11_there 14 = .ok (.invokevirtual 110, 3) := by decide +kernel
theorem dX11_there_17 : decode cX11_there 17 = .ok (.ifCond .ne 11, 3) := by decide +kernel
theorem dX11_there_20 : decode cX11_there 20 = .ok (.aload_n 0, 1) := by decide +kernel
theorem dX11_there_21 : decode cX11_there 21 = .ok (.iconst 0, 1) := by decide +kernel
theorem dX11_there_22 : decode cX11_there 22 = .ok (.bipush (-10), 2) := by decide +kernel
theorem dX11_there_24 : decode cX11_there 24 = .ok (.invokevirtual 88, 3) := by decide +kernel
theorem dX11_there_27 : decode cX11_there 27 = .ok (.ireturn, 1) := by decide +kernel
theorem dX11_there_28 : decode cX11_there 28 = .ok (.iload_n 2, 1) := by decide +kernel
theorem dX11_there_29 : decode cX11_there 29 = .ok (.iconst (-1), 1) := by decide +kernel
theorem dX11_there_30 : decode cX11_there 30 = .ok (.if_icmp .ne 17, 3) := by decide +kernel
theorem dX11_there_33 : decode cX11_there 33 = .ok (.aload_n 0, 1) := by decide +kernel
theorem dX11_there_34 : decode cX11_there 34 = .ok (.getfield 27, 3) := by decide +kernel
theorem dX11_there_37 : decode cX11_there 37 = .ok (.getfield 43, 3) := by decide +kernel
theorem dX11_there_40 : decode cX11_there 40 = .ok (.iload_n 1, 1) := by decide +kernel
theorem dX11_there_41 : decode cX11_there 41 = .ok (.invokevirtual 154, 3) := by decide +kernel
theorem dX11_there_44 : decode cX11_there 44 = .ok (.goto 15, 3) := by decide +kernel
theorem dX11_there_47 : decode cX11_there 47 = .ok (.aload_n 0, 1) := by decide +kernel
theorem dX11_there_48 : decode cX11_there 48 = .ok (.getfield 27, 3) := by decide +kernel
theorem dX11_there_51 : decode cX11_there 51 = .ok (.getfield 43, 3) := by decide +kernel
theorem dX11_there_54 : decode cX11_there 54 = .ok (.iload_n 1, 1) := by decide +kernel
theorem dX11_there_55 : decode cX11_there 55 = .ok (.iload_n 2, 1) := by decide +kernel
theorem dX11_there_56 : decode cX11_there 56 = .ok (.invokevirtual 113, 3) := by decide +kernel
theorem dX11_there_59 : decode cX11_there 59 = .ok (.ireturn, 1) := by decide +kernel
theorem dX11_about_0 : decode cX11_about 0 = .ok (.aload_n 0, 1) := by decide +kernel
theorem dX11_about_1 : decode cX11_about 1 = .ok (.iload_n 1, 1) := by decide +kernel
theorem dX11_about_2 : decode cX11_about 2 = .ok (.invokevirtual 158, 3) := by decide +kernel
theorem dX11_about_5 : decode cX11_about 5 = .ok (.ifCond .eq 12, 3) := by decide +kernel
theorem dX11_about_8 : decode cX11_about 8 = .ok (.iload_n 2, 1) := by decide +kernel
theorem dX11_about_9 : decode cX11_about 9 = .ok (.iconst 0, 1) := by decide +kernel
theorem dX11_about_10 : decode cX11_about 10 = .ok (.iconst 3, 1) := by decide +kernel
theorem dX11_about_11 : decode cX11_about 11 = .ok (.invokestatic 84, 3) := by decide +kernel
theorem dX11_about_14 : decode cX11_about 14 = .ok (.ifCond .ne 11, 3) := by decide +kernel
theorem dX11_about_17 : decode cX11_about 17 = .ok (.aload_n 0, 1) := by decide +kernel
theorem dX11_about_18 : decode cX11_about 18 = .ok (.iconst 0, 1) := by decide +kernel
theorem dX11_about_19 : decode cX11_about 19 = .ok (.bipush (-2), 2) := by decide +kernel
theorem dX11_about_21 : decode cX11_about 21 = .ok (.invokevirtual 88, 3) := by decide +kernel
theorem dX11_about_24 : decode cX11_about 24 = .ok (.ireturn, 1) := by decide +kernel
theorem dX11_about_25 : decode cX11_about 25 = .ok (.aload_n 0, 1) := by decide +kernel
theorem dX11_about_26 : decode cX11_about 26 = .ok (.getfield 27, 3) := by decide +kernel
theorem dX11_about_29 : decode cX11_about 29 = .ok (.getfield 43, 3) := by decide +kernel
theorem dX11_about_32 : decode cX11_about 32 = .ok (.iload_n 1, 1) := by decide +kernel
theorem dX11_about_33 : decode cX11_about 33 = .ok (.iload_n 2, 1) := by decide +kernel
theorem dX11_about_34 : decode cX11_about 34 = .ok (.invokevirtual 161, 3) := by decide +kernel
theorem dX11_about_37 : decode cX11_about 37 = .ok (.ireturn, 1) := by decide +kernel
theorem dX11_where_0 : decode cX11_where 0 = .ok (.iload_n 1, 1) := by decide +kernel
theorem dX11_where_1 : decode cX11_where 1 = .ok (.invokestatic 103, 3) := by decide +kernel
theorem dX11_where_4 : decode cX11_where 4 = .ok (.ifCond .eq 28, 3) := by decide +kernel
theorem dX11_where_7 : decode cX11_where 7 = .ok (.aload_n 0, 1) := by decide +kernel
theorem dX11_where_8 : decode cX11_where 8 = .ok (.iload_n 2, 1) := by decide +kernel
theorem dX11_where_9 : decode cX11_where 9 = .ok (.invokevirtual 110, 3) := by decide +kernel
theorem dX11_where_12 : decode cX11_where 12 = .ok (.ifCond .eq 20, 3) := by decide +kernel
theorem dX11_where_15 : decode cX11_where 15 = .ok (.iload_n 3, 1) := by decide +kernel
theorem dX11_where_16 : decode cX11_where 16 = .ok (.invokestatic 164, 3) := by decide +kernel
theorem dX11_where_19 : decode cX11_where 19 = .ok (.ifCond .eq 13, 3) := by decide +kernel
theorem dX11_where_22 : decode cX11_where 22 = .ok (.iload 4, 2) := by decide +kernel
theorem dX11_where_24 : decode cX11_where 24 = .ok (.iconst 0, 1) := by decide +kernel
theorem dX11_where_25 : decode cX11_where 25 = .ok (.iconst 2, 1) := by decide +kernel
theorem dX11_where_26 : decode cX11_where 26 = .ok (.invokestatic 84, 3) := by decide +kernel
theorem dX11_where_29 : decode cX11_where 29 = .ok (.ifCond .ne 11, 3) := by decide +kernel
theorem dX11_where_32 : decode cX11_where 32 = .ok (.aload_n 0, 1) := by decide +kernel
theorem dX11_where_33 : decode cX11_where 33 = .ok (.iconst 0, 1) := by decide +kernel
theorem dX11_where_34 : decode cX11_where 34 = .ok (.bipush (-10), 2) := by decide +kernel
theorem dX11_where_36 : decode cX11_where 36 = .ok (.invokevirtual 88, 3) := by decide +kernel
theorem dX11_where_39 : decode cX11_where 39 = .ok (.ireturn, 1) := by decide +kernel
theorem dX11_where_40 : decode cX11_where 40 = .ok (.aload_n 0, 1) := by decide +kernel
theorem dX11_where_41 : decode cX11_where 41 = .ok (.getfield 53, 3) := by decide +kernel
theorem dX11_where_44 : decode cX11_where 44 = .ok (.iload_n 1, 1) := by decide +kernel
theorem dX11_where_45 : decode cX11_where 45 = .ok (.iload_n 2, 1) := by decide +kernel
theorem dX11_where_46 : decode cX11_where 46 = .ok (.iload_n 3, 1) := by decide +kernel
theorem dX11_where_47 : decode cX11_where 47 = .ok (.invokevirtual 167, 3) := by decide +kernel
theorem dX11_where_50 : decode cX11_where 50 = .ok (.astore 5, 2) := by decide +kernel
theorem dX11_where_52 : decode cX11_where 52 = .ok (.iload 4, 2) := by decide +kernel
theorem dX11_where_54 : decode cX11_where 54 = .ok (.ifCond .ne 21, 3) := by decide +kernel
theorem dX11_where_57 : decode cX11_where 57 = .ok (.aload 5, 2) := by decide +kernel
theorem dX11_where_59 : decode cX11_where 59 = .ok (.invokevirtual 171, 3) := by decide +kernel
theorem dX11_where_62 : decode cX11_where 62 = .ok (.ifCond .eq 7, 3) := by decide +kernel
theorem dX11_where_65 : decode cX11_where 65 = .ok (.iconst (-1), 1) := by decide +kernel
theorem dX11_where_66 : decode cX11_where 66 = .ok (.goto 8, 3) := by decide +kernel
theorem dX11_where_69 : decode cX11_where 69 = .ok (.aload 5, 2) := by decide +kernel
theorem dX11_where_71 : decode cX11_where 71 = .ok (.getfield 177, 3) := by decide +kernel
theorem dX11_where_74 : decode cX11_where 74 = .ok (.ireturn, 1) := by decide +kernel
theorem dX11_where_75 : decode cX11_where 75 = .ok (.iload 4, 2) := by decide +kernel
theorem dX11_where_77 : decode cX11_where 77 = .ok (.iconst 1, 1) := by decide +kernel
theorem dX11_where_78 : decode cX11_where 78 = .ok (.if_icmp .ne 11, 3) := by decide +kernel
theorem dX11_where_81 : decode cX11_where 81 = .ok (.aload 5, 2) := by decide +kernel
theorem dX11_where_83 : decode cX11_where 83 = .ok (.getfield 180, 3) := by decide +kernel
theorem dX11_where_86 : decode cX11_where 86 = .ok (.goto 8, 3) := by decide +kernel
theorem dX11_where_89 : decode cX11_where 89 = .ok (.aload 5, 2) := by decide +kernel
theorem dX11_where_91 : decode cX11_where 91 = .ok (.getfield 183, 3) := by decide +kernel
theorem dX11_where_94 : decode cX11_where 94 = .ok (.ireturn, 1) := by decide +kernel
theorem dX11_loss_0 : decode cX11_loss 0 = .ok (.iload_n 1, 1) := by decide +kernel
theorem dX11_loss_1 : decode cX11_loss 1 = .ok (.invokestatic 164, 3) := by decide +kernel
theorem dX11_loss_4 : decode cX11_loss 4 = .ok (.ifCond .ne 11, 3) := by decide +kernel
theorem dX11_loss_7 : decode cX11_loss 7 = .ok (.aload_n 0, 1) := by decide +kernel
theorem dX11_loss_8 : decode cX11_loss 8 = .ok (.iconst 0, 1) := by decide +kernel
theorem dX11_loss_9 : decode cX11_loss 9 = .ok (.bipush (-2), 2) := by decide +kernel
theorem dX11_loss_11 : decode cX11_loss 11 = .ok (.invokevirtual 88, 3) := by decide +kernel
theorem dX11_loss_14 : decode cX11_loss 14 = .ok (.ireturn, 1) := by decide +kernel
theorem dX11_loss_15 : decode cX11_loss 15 = .ok (.aload_n 0, 1) := by decide +kernel
theorem dX11_loss_16 : decode cX11_loss 16 = .ok (.getfield 53, 3) := by decide +kernel
theorem dX11_loss_19 : decode cX11_loss 19 = .ok (.iload_n 1, 1) := by decide +kernel
theorem dX11_loss_20 : decode cX11_loss 20 = .ok (.invokevirtual 186, 3) := by decide +kernel
theorem dX11_loss_23 : decode cX11_loss 23 = .ok (.ireturn, 1) := by decide +kernel
theorem dX11_pushes_0 : decode cX11_pushes 0 = .ok (.iload_n 1, 1) := by decide +kernel
theorem dX11_pushes_1 : decode cX11_pushes 1 = .ok (.iconst 0, 1) := by decide +kernel
theorem dX11_pushes_2 : decode cX11_pushes 2 = .ok (.bipush 12, 2) := by decide +kernel
theorem dX11_pushes_4 : decode cX11_pushes 4 = .ok (.invokestatic 84, 3) := by decide +kernel
theorem dX11_pushes_7 : decode cX11_pushes 7 = .ok (.ifCond .ne 11, 3) := by decide +kernel
theorem dX11_pushes_10 : decode cX11_pushes 10 = .ok (.aload_n 0, 1) := by decide +kernel
theorem dX11_pushes_11 : decode cX11_pushes 11 = .ok (.iconst 0, 1) := by decide +kernel
theorem dX11_pushes_12 : decode cX11_pushes 12 = .ok (.bipush (-2), 2) := by decide +kernel
theorem dX11_pushes_14 : decode cX11_pushes 14 = .ok (.invokevirtual 88, 3) := by decide +kernel
theorem dX11_pushes_17 : decode cX11_pushes 17 = .ok (.ireturn, 1) := by decide +kernel
theorem dX11_pushes_18 : decode cX11_pushes 18 = .ok (.aload_n 0, 1) := by decide +kernel
theorem dX11_pushes_19 : decode cX11_pushes 19 = .ok (.getfield 53, 3) := by decide +kernel
theorem dX11_pushes_22 : decode cX11_pushes 22 = .ok (.iload_n 1, 1) := by decide +kernel
theorem dX11_pushes_23 : decode cX11_pushes 23 = .ok (.invokevirtual 189, 3) := by decide +kernel
theorem dX11_pushes_26 : decode cX11_pushes 26 = .ok (.ireturn, 1) := by decide +kernel
theorem dX11_moved_0 : decode cX11_moved 0 = .ok (.aload_n 0, 1) := by decide +kernel
theorem dX11_moved_1 : decode cX11_moved 1 = .ok (.iload_n 1, 1) := by decide +kernel
theorem dX11_moved_2 : decode cX11_moved 2 = .ok (.invokevirtual 158, 3) := by decide +kernel
theorem dX11_moved_5 : decode cX11_moved 5 = .ok (.ifCond .eq 10, 3) := by decide +kernel
theorem dX11_moved_8 : decode cX11_moved 8 = .ok (.iload_n 2, 1) := by decide +kernel
theorem dX11_moved_9 : decode cX11_moved 9 = .ok (.invokestatic 164, 3) := by decide +kernel
theorem dX11_moved_12 : decode cX11_moved 12 = .ok (.ifCond .ne 11, 3) := by decide +kernel
theorem dX11_moved_15 : decode cX11_moved 15 = .ok (.aload_n 0, 1) := by decide +kernel
theorem dX11_moved_16 : decode cX11_moved 16 = .ok (.iconst 0, 1) := by decide +kernel
theorem dX11_moved_17 : decode cX11_moved 17 = .ok (.bipush (-2), 2) := by decide +kernel
theorem dX11_moved_19 : decode cX11_moved 19 = .ok (.invokevirtual 88, 3) := by decide +kernel
theorem dX11_moved_22 : decode cX11_moved 22 = .ok (.ireturn, 1) := by decide +kernel
theorem dX11_moved_23 : decode cX11_moved 23 = .ok (.aload_n 0, 1) := by decide +kernel
theorem dX11_moved_24 : decode cX11_moved 24 = .ok (.getfield 53, 3) := by decide +kernel
theorem dX11_moved_27 : decode cX11_moved 27 = .ok (.iload_n 1, 1) := by decide +kernel
theorem dX11_moved_28 : decode cX11_moved 28 = .ok (.iload_n 2, 1) := by decide +kernel
theorem dX11_moved_29 : decode cX11_moved 29 = .ok (.invokevirtual 192, 3) := by decide +kernel
theorem dX11_moved_32 : decode cX11_moved 32 = .ok (.ireturn, 1) := by decide +kernel
theorem dX11_road_0 : decode cX11_road 0 = .ok (.aload_n 0, 1) := by decide +kernel
theorem dX11_road_1 : decode cX11_road 1 = .ok (.iload_n 1, 1) := by decide +kernel
theorem dX11_road_2 : decode cX11_road 2 = .ok (.invokevirtual 110, 3) := by decide +kernel
theorem dX11_road_5 : decode cX11_road 5 = .ok (.ifCond .eq 19, 3) := by decide +kernel
theorem dX11_road_8 : decode cX11_road 8 = .ok (.iload_n 2, 1) := by decide +kernel
theorem dX11_road_9 : decode cX11_road 9 = .ok (.invokestatic 164, 3) := by decide +kernel
theorem dX11_road_12 : decode cX11_road 12 = .ok (.ifCond .eq 12, 3) := by decide +kernel
theorem dX11_road_15 : decode cX11_road 15 = .ok (.iload_n 3, 1) := by decide +kernel
theorem dX11_road_16 : decode cX11_road 16 = .ok (.iconst 0, 1) := by decide +kernel
theorem dX11_road_17 : decode cX11_road 17 = .ok (.iconst 1, 1) := by decide +kernel
theorem dX11_road_18 : decode cX11_road 18 = .ok (.invokestatic 84, 3) := by decide +kernel
theorem dX11_road_21 : decode cX11_road 21 = .ok (.ifCond .ne 11, 3) := by decide +kernel
theorem dX11_road_24 : decode cX11_road 24 = .ok (.aload_n 0, 1) := by decide +kernel
theorem dX11_road_25 : decode cX11_road 25 = .ok (.iconst 0, 1) := by decide +kernel
theorem dX11_road_26 : decode cX11_road 26 = .ok (.bipush (-10), 2) := by decide +kernel
theorem dX11_road_28 : decode cX11_road 28 = .ok (.invokevirtual 88, 3) := by decide +kernel
theorem dX11_road_31 : decode cX11_road 31 = .ok (.ireturn, 1) := by decide +kernel
theorem dX11_road_32 : decode cX11_road 32 = .ok (.aload_n 0, 1) := by decide +kernel
theorem dX11_road_33 : decode cX11_road 33 = .ok (.getfield 53, 3) := by decide +kernel
theorem dX11_road_36 : decode cX11_road 36 = .ok (.iload_n 1, 1) := by decide +kernel
theorem dX11_road_37 : decode cX11_road 37 = .ok (.iload_n 2, 1) := by decide +kernel
theorem dX11_road_38 : decode cX11_road 38 = .ok (.invokevirtual 195, 3) := by decide +kernel
theorem dX11_road_41 : decode cX11_road 41 = .ok (.istore 4, 2) := by decide +kernel
theorem dX11_road_43 : decode cX11_road 43 = .ok (.iload_n 3, 1) := by decide +kernel
theorem dX11_road_44 : decode cX11_road 44 = .ok (.ifCond .eq 9, 3) := by decide +kernel
theorem dX11_road_47 : decode cX11_road 47 = .ok (.iload 4, 2) := by decide +kernel
theorem dX11_road_49 : decode cX11_road 49 = .ok (.iconst (-1), 1) := by decide +kernel
theorem dX11_road_50 : decode cX11_road 50 = .ok (.if_icmp .ne 6, 3) := by decide +kernel
theorem dX11_road_53 : decode cX11_road 53 = .ok (.iload 4, 2) := by decide +kernel
theorem dX11_road_55 : decode cX11_road 55 = .ok (.ireturn, 1) := by decide +kernel
theorem dX11_road_56 : decode cX11_road 56 = .ok (.aload_n 0, 1) := by decide +kernel
theorem dX11_road_57 : decode cX11_road 57 = .ok (.getfield 53, 3) := by decide +kernel
theorem dX11_road_60 : decode cX11_road 60 = .ok (.iload_n 1, 1) := by decide +kernel
theorem dX11_road_61 : decode cX11_road 61 = .ok (.iload_n 2, 1) := by decide +kernel
theorem dX11_road_62 : decode cX11_road 62 = .ok (.iload 4, 2) := by decide +kernel
theorem dX11_road_64 : decode cX11_road 64 = .ok (.invokevirtual 198, 3) := by decide +kernel
theorem dX11_road_67 : decode cX11_road 67 = .ok (.ireturn, 1) := by decide +kernel
theorem dX11_back_0 : decode cX11_back 0 = .ok (.aload_n 0, 1) := by decide +kernel
theorem dX11_back_1 : decode cX11_back 1 = .ok (.getfield 27, 3) := by decide +kernel
theorem dX11_back_4 : decode cX11_back 4 = .ok (.getfield 43, 3) := by decide +kernel
theorem dX11_back_7 : decode cX11_back 7 = .ok (.invokevirtual 202, 3) := by decide +kernel
theorem dX11_back_10 : decode cX11_back 10 = .ok (.ireturn, 1) := by decide +kernel
theorem dX11_told_0 : decode cX11_told 0 = .ok (.iload_n 1, 1) := by decide +kernel
theorem dX11_told_1 : decode cX11_told 1 = .ok (.invokestatic 103, 3) := by decide +kernel
theorem dX11_told_4 : decode cX11_told 4 = .ok (.ifCond .eq 14, 3) := by decide +kernel
theorem dX11_told_7 : decode cX11_told 7 = .ok (.iload_n 2, 1) := by decide +kernel
theorem dX11_told_8 : decode cX11_told 8 = .ok (.iconst 0, 1) := by decide +kernel
theorem dX11_told_9 : decode cX11_told 9 = .ok (.sipush 9999, 3) := by decide +kernel
theorem dX11_told_12 : decode cX11_told 12 = .ok (.invokestatic 84, 3) := by decide +kernel
theorem dX11_told_15 : decode cX11_told 15 = .ok (.ifCond .ne 11, 3) := by decide +kernel
theorem dX11_told_18 : decode cX11_told 18 = .ok (.aload_n 0, 1) := by decide +kernel
theorem dX11_told_19 : decode cX11_told 19 = .ok (.iconst 0, 1) := by decide +kernel
theorem dX11_told_20 : decode cX11_told 20 = .ok (.bipush (-2), 2) := by decide +kernel
theorem dX11_told_22 : decode cX11_told 22 = .ok (.invokevirtual 88, 3) := by decide +kernel
theorem dX11_told_25 : decode cX11_told 25 = .ok (.ireturn, 1) := by decide +kernel
theorem dX11_told_26 : decode cX11_told 26 = .ok (.aload_n 0, 1) := by decide +kernel
theorem dX11_told_27 : decode cX11_told 27 = .ok (.getfield 27, 3) := by decide +kernel
theorem dX11_told_30 : decode cX11_told 30 = .ok (.getfield 43, 3) := by decide +kernel
theorem dX11_told_33 : decode cX11_told 33 = .ok (.getfield 205, 3) := by decide +kernel
theorem dX11_told_36 : decode cX11_told 36 = .ok (.iload_n 1, 1) := by decide +kernel
theorem dX11_told_37 : decode cX11_told 37 = .ok (.iaload, 1) := by decide +kernel
theorem dX11_told_38 : decode cX11_told 38 = .ok (.istore_n 3, 1) := by decide +kernel
theorem dX11_told_39 : decode cX11_told 39 = .ok (.aload_n 0, 1) := by decide +kernel
theorem dX11_told_40 : decode cX11_told 40 = .ok (.getfield 27, 3) := by decide +kernel
theorem dX11_told_43 : decode cX11_told 43 = .ok (.getfield 43, 3) := by decide +kernel
theorem dX11_told_46 : decode cX11_told 46 = .ok (.getfield 205, 3) := by decide +kernel
theorem dX11_told_49 : decode cX11_told 49 = .ok (.iload_n 1, 1) := by decide +kernel
theorem dX11_told_50 : decode cX11_told 50 = .ok (.iload_n 2, 1) := by decide +kernel
theorem dX11_told_51 : decode cX11_told 51 = .ok (.iastore, 1) := by decide +kernel
theorem dX11_told_52 : decode cX11_told 52 = .ok (.iload_n 3, 1) := by decide +kernel
theorem dX11_told_53 : decode cX11_told 53 = .ok (.ireturn, 1) := by decide +kernel
theorem dX11_taken_0 : decode cX11_taken 0 = .ok (.iload_n 1, 1) := by decide +kernel
theorem dX11_taken_1 : decode cX11_taken 1 = .ok (.invokestatic 164, 3) := by decide +kernel
theorem dX11_taken_4 : decode cX11_taken 4 = .ok (.ifCond .eq 8, 3) := by decide +kernel
theorem dX11_taken_7 : decode cX11_taken 7 = .ok (.iload_n 2, 1) := by decide +kernel
theorem dX11_taken_8 : decode cX11_taken 8 = .ok (.iconst (-1), 1) := by decide +kernel
theorem dX11_taken_9 : decode cX11_taken 9 = .ok (.if_icmp .ge 11, 3) := by decide +kernel
theorem dX11_taken_12 : decode cX11_taken 12 = .ok (.aload_n 0, 1) := by decide +kernel
theorem dX11_taken_13 : decode cX11_taken 13 = .ok (.iconst 0, 1) := by decide +kernel
theorem dX11_taken_14 : decode cX11_taken 14 = .ok (.bipush (-10), 2) := by decide +kernel
theorem dX11_taken_16 : decode cX11_taken 16 = .ok (.invokevirtual 88, 3) := by decide +kernel
theorem dX11_taken_19 : decode cX11_taken 19 = .ok (.ireturn, 1) := by decide +kernel
theorem dX11_taken_20 : decode cX11_taken 20 = .ok (.aload_n 0, 1) := by decide +kernel
theorem dX11_taken_21 : decode cX11_taken 21 = .ok (.getfield 53, 3) := by decide +kernel
theorem dX11_taken_24 : decode cX11_taken 24 = .ok (.iload_n 1, 1) := by decide +kernel
theorem dX11_taken_25 : decode cX11_taken 25 = .ok (.invokevirtual 208, 3) := by decide +kernel
theorem dX11_taken_28 : decode cX11_taken 28 = .ok (.istore_n 3, 1) := by decide +kernel
theorem dX11_taken_29 : decode cX11_taken 29 = .ok (.iload_n 2, 1) := by decide +kernel
theorem dX11_taken_30 : decode cX11_taken 30 = .ok (.iconst (-1), 1) := by decide +kernel
theorem dX11_taken_31 : decode cX11_taken 31 = .ok (.if_icmp .ne 5, 3) := by decide +kernel
theorem dX11_taken_34 : decode cX11_taken 34 = .ok (.iload_n 3, 1) := by decide +kernel
theorem dX11_taken_35 : decode cX11_taken 35 = .ok (.ireturn, 1) := by decide +kernel
theorem dX11_taken_36 : decode cX11_taken 36 = .ok (.iload_n 2, 1) := by decide +kernel
theorem dX11_taken_37 : decode cX11_taken 37 = .ok (.iload_n 3, 1) := by decide +kernel
theorem dX11_taken_38 : decode cX11_taken 38 = .ok (.if_icmp .ge 14, 3) := by decide +kernel
theorem dX11_taken_41 : decode cX11_taken 41 = .ok (.aload_n 0, 1) := by decide +kernel
theorem dX11_taken_42 : decode cX11_taken 42 = .ok (.getfield 53, 3) := by decide +kernel
theorem dX11_taken_45 : decode cX11_taken 45 = .ok (.iload_n 2, 1) := by decide +kernel
theorem dX11_taken_46 : decode cX11_taken 46 = .ok (.invokevirtual 211, 3) := by decide +kernel
theorem dX11_taken_49 : decode cX11_taken 49 = .ok (.goto 5, 3) := by decide +kernel
theorem dX11_taken_52 : decode cX11_taken 52 = .ok (.bipush (-5), 2) := by decide +kernel
theorem dX11_taken_54 : decode cX11_taken 54 = .ok (.ireturn, 1) := by decide +kernel
theorem dX11_game_0 : decode cX11_game 0 = .ok (.iload_n 1, 1) := by decide +kernel
theorem dX11_game_1 : decode cX11_game 1 = .ok (.iconst 1, 1) := by decide +kernel
theorem dX11_game_2 : decode cX11_game 2 = .ok (.bipush 6, 2) := by decide +kernel
theorem dX11_game_4 : decode cX11_game 4 = .ok (.invokestatic 84, 3) := by decide +kernel
theorem dX11_game_7 : decode cX11_game 7 = .ok (.ifCond .eq 12, 3) := by decide +kernel
theorem dX11_game_10 : decode cX11_game 10 = .ok (.iload_n 2, 1) := by decide +kernel
theorem dX11_game_11 : decode cX11_game 11 = .ok (.iconst 0, 1) := by decide +kernel
theorem dX11_game_12 : decode cX11_game 12 = .ok (.iconst 1, 1) := by decide +kernel
theorem dX11_game_13 : decode cX11_game 13 = .ok (.invokestatic 84, 3) := by decide +kernel
theorem dX11_game_16 : decode cX11_game 16 = .ok (.ifCond .ne 11, 3) := by decide +kernel
theorem dX11_game_19 : decode cX11_game 19 = .ok (.aload_n 0, 1) := by decide +kernel
theorem dX11_game_20 : decode cX11_game 20 = .ok (.iconst 0, 1) := by decide +kernel
theorem dX11_game_21 : decode cX11_game 21 = .ok (.ldc 214, 2) := by decide +kernel
theorem dX11_game_23 : decode cX11_game 23 = .ok (.invokevirtual 88, 3) := by decide +kernel
theorem dX11_game_26 : decode cX11_game 26 = .ok (.ireturn, 1) := by decide +kernel
theorem dX11_game_27 : decode cX11_game 27 = .ok (.iload_n 2, 1) := by decide +kernel
theorem dX11_game_28 : decode cX11_game 28 = .ok (.ifCond .ne 14, 3) := by decide +kernel
theorem dX11_game_31 : decode cX11_game 31 = .ok (.aload_n 0, 1) := by decide +kernel
theorem dX11_game_32 : decode cX11_game 32 = .ok (.getfield 53, 3) := by decide +kernel
theorem dX11_game_35 : decode cX11_game 35 = .ok (.iload_n 1, 1) := by decide +kernel
theorem dX11_game_36 : decode cX11_game 36 = .ok (.invokevirtual 215, 3) := by decide +kernel
theorem dX11_game_39 : decode cX11_game 39 = .ok (.goto 11, 3) := by decide +kernel
theorem dX11_game_42 : decode cX11_game 42 = .ok (.aload_n 0, 1) := by decide +kernel
theorem dX11_game_43 : decode cX11_game 43 = .ok (.getfield 53, 3) := by decide +kernel
theorem dX11_game_46 : decode cX11_game 46 = .ok (.iload_n 1, 1) := by decide +kernel
theorem dX11_game_47 : decode cX11_game 47 = .ok (.invokevirtual 218, 3) := by decide +kernel
theorem dX11_game_50 : decode cX11_game 50 = .ok (.ireturn, 1) := by decide +kernel
theorem dX11_fee_0 : decode cX11_fee 0 = .ok (.aload_n 0, 1) := by decide +kernel
theorem dX11_fee_1 : decode cX11_fee 1 = .ok (.iload_n 1, 1) := by decide +kernel
theorem dX11_fee_2 : decode cX11_fee 2 = .ok (.invokevirtual 158, 3) := by decide +kernel
theorem dX11_fee_5 : decode cX11_fee 5 = .ok (.ifCond .eq 10, 3) := by decide +kernel
theorem dX11_fee_8 : decode cX11_fee 8 = .ok (.iload_n 2, 1) := by decide +kernel
theorem dX11_fee_9 : decode cX11_fee 9 = .ok (.invokestatic 164, 3) := by decide +kernel
theorem dX11_fee_12 : decode cX11_fee 12 = .ok (.ifCond .ne 11, 3) := by decide +kernel
theorem dX11_fee_15 : decode cX11_fee 15 = .ok (.aload_n 0, 1) := by decide +kernel
theorem dX11_fee_16 : decode cX11_fee 16 = .ok (.iconst 0, 1) := by decide +kernel
theorem dX11_fee_17 : decode cX11_fee 17 = .ok (.bipush (-2), 2) := by decide +kernel
theorem dX11_fee_19 : decode cX11_fee 19 = .ok (.invokevirtual 88, 3) := by decide +kernel
theorem dX11_fee_22 : decode cX11_fee 22 = .ok (.ireturn, 1) := by decide +kernel
theorem dX11_fee_23 : decode cX11_fee 23 = .ok (.aload_n 0, 1) := by decide +kernel
theorem dX11_fee_24 : decode cX11_fee 24 = .ok (.getfield 53, 3) := by decide +kernel
theorem dX11_fee_27 : decode cX11_fee 27 = .ok (.iload_n 1, 1) := by decide +kernel
theorem dX11_fee_28 : decode cX11_fee 28 = .ok (.iload_n 2, 1) := by decide +kernel
theorem dX11_fee_29 : decode cX11_fee 29 = .ok (.invokevirtual 221, 3) := by decide +kernel
theorem dX11_fee_32 : decode cX11_fee 32 = .ok (.lstore_n 3, 1) := by decide +kernel
theorem dX11_fee_33 : decode cX11_fee 33 = .ok (.getstatic 225, 3) := by decide +kernel
theorem dX11_fee_36 : decode cX11_fee 36 = .ok (.aload_n 0, 1) := by decide +kernel
theorem dX11_fee_37 : decode cX11_fee 37 = .ok (.getfield 27, 3) := by decide +kernel
theorem dX11_fee_40 : decode cX11_fee 40 = .ok (.getfield 43, 3) := by decide +kernel
theorem dX11_fee_43 : decode cX11_fee 43 = .ok (.getfield 120, 3) := by decide +kernel
theorem dX11_fee_46 : decode cX11_fee 46 = .ok (.iaload, 1) := by decide +kernel
theorem dX11_fee_47 : decode cX11_fee 47 = .ok (.i2l, 1) := by decide +kernel
theorem dX11_fee_48 : decode cX11_fee 48 = .ok (.lstore 5, 2) := by decide +kernel
theorem dX11_fee_50 : decode cX11_fee 50 = .ok (.lload_n 3, 1) := by decide +kernel
theorem dX11_fee_51 : decode cX11_fee 51 = .ok (.invokestatic 228, 3) := by decide +kernel
theorem dX11_fee_54 : decode cX11_fee 54 = .ok (.lload 5, 2) := by decide +kernel
theorem dX11_fee_56 : decode cX11_fee 56 = .ok (.invokestatic 234, 3) := by decide +kernel
theorem dX11_fee_59 : decode cX11_fee 59 = .ok (.lstore 7, 2) := by decide +kernel
theorem dX11_fee_61 : decode cX11_fee 61 = .ok (.lload 7, 2) := by decide +kernel
theorem dX11_fee_63 : decode cX11_fee 63 = .ok (.lconst 0, 1) := by decide +kernel
theorem dX11_fee_64 : decode cX11_fee 64 = .ok (.lcmp, 1) := by decide +kernel
theorem dX11_fee_65 : decode cX11_fee 65 = .ok (.ifCond .le 20, 3) := by decide +kernel
theorem dX11_fee_68 : decode cX11_fee 68 = .ok (.aload_n 0, 1) := by decide +kernel
theorem dX11_fee_69 : decode cX11_fee 69 = .ok (.lload_n 3, 1) := by decide +kernel
theorem dX11_fee_70 : decode cX11_fee 70 = .ok (.lload 7, 2) := by decide +kernel
theorem dX11_fee_72 : decode cX11_fee 72 = .ok (.ldiv, 1) := by decide +kernel
theorem dX11_fee_73 : decode cX11_fee 73 = .ok (.putfield 77, 3) := by decide +kernel
theorem dX11_fee_76 : decode cX11_fee 76 = .ok (.aload_n 0, 1) := by decide +kernel
theorem dX11_fee_77 : decode cX11_fee 77 = .ok (.lload 5, 2) := by decide +kernel
theorem dX11_fee_79 : decode cX11_fee 79 = .ok (.lload 7, 2) := by decide +kernel
theorem dX11_fee_81 : decode cX11_fee 81 = .ok (.ldiv, 1) := by decide +kernel
theorem dX11_fee_82 : decode cX11_fee 82 = .ok (.putfield 81, 3) := by decide +kernel
theorem dX11_fee_85 : decode cX11_fee 85 = .ok (.iconst 1, 1) := by decide +kernel
theorem dX11_fee_86 : decode cX11_fee 86 = .ok (.ireturn, 1) := by decide +kernel
theorem dX11_part_0 : decode cX11_part 0 = .ok (.iload_n 1, 1) := by decide +kernel
theorem dX11_part_1 : decode cX11_part 1 = .ok (.iconst 0, 1) := by decide +kernel
theorem dX11_part_2 : decode cX11_part 2 = .ok (.iconst 1, 1) := by decide +kernel
theorem dX11_part_3 : decode cX11_part 3 = .ok (.invokestatic 84, 3) := by decide +kernel
theorem dX11_part_6 : decode cX11_part 6 = .ok (.ifCond .ne 12, 3) := by decide +kernel
theorem dX11_part_9 : decode cX11_part 9 = .ok (.aload_n 0, 1) := by decide +kernel
theorem dX11_part_10 : decode cX11_part 10 = .ok (.iconst 0, 1) := by decide +kernel
theorem dX11_part_11 : decode cX11_part 11 = .ok (.ldc 214, 2) := by decide +kernel
theorem dX11_part_13 : decode cX11_part 13 = .ok (.invokevirtual 88, 3) := by decide +kernel
theorem dX11_part_16 : decode cX11_part 16 = .ok (.i2l, 1) := by decide +kernel
theorem dX11_part_17 : decode cX11_part 17 = .ok (.lreturn, 1) := by decide +kernel
theorem dX11_part_18 : decode cX11_part 18 = .ok (.iload_n 1, 1) := by decide +kernel
theorem dX11_part_19 : decode cX11_part 19 = .ok (.ifCond .ne 10, 3) := by decide +kernel
theorem dX11_part_22 : decode cX11_part 22 = .ok (.aload_n 0, 1) := by decide +kernel
theorem dX11_part_23 : decode cX11_part 23 = .ok (.getfield 77, 3) := by decide +kernel
theorem dX11_part_26 : decode cX11_part 26 = .ok (.goto 7, 3) := by decide +kernel
theorem dX11_part_29 : decode cX11_part 29 = .ok (.aload_n 0, 1) := by decide +kernel
theorem dX11_part_30 : decode cX11_part 30 = .ok (.getfield 81, 3) := by decide +kernel
theorem dX11_part_33 : decode cX11_part 33 = .ok (.lreturn, 1) := by decide +kernel
theorem dX11_image_0 : decode cX11_image 0 = .ok (.iload_n 1, 1) := by decide +kernel
theorem dX11_image_1 : decode cX11_image 1 = .ok (.iconst 0, 1) := by decide +kernel
theorem dX11_image_2 : decode cX11_image 2 = .ok (.iconst 1, 1) := by decide +kernel
theorem dX11_image_3 : decode cX11_image 3 = .ok (.invokestatic 84, 3) := by decide +kernel
theorem dX11_image_6 : decode cX11_image 6 = .ok (.ifCond .ne 11, 3) := by decide +kernel
theorem dX11_image_9 : decode cX11_image 9 = .ok (.aload_n 0, 1) := by decide +kernel
theorem dX11_image_10 : decode cX11_image 10 = .ok (.iconst 0, 1) := by decide +kernel
theorem dX11_image_11 : decode cX11_image 11 = .ok (.bipush (-2), 2) := by decide +kernel
theorem dX11_image_13 : decode cX11_image 13 = .ok (.invokevirtual 88, 3) := by decide +kernel
theorem dX11_image_16 : decode cX11_image 16 = .ok (.ireturn, 1) := by decide +kernel
theorem dX11_image_17 : decode cX11_image 17 = .ok (.aload_n 0, 1) := by decide +kernel
theorem dX11_image_18 : decode cX11_image 18 = .ok (.getfield 33, 3) := by decide +kernel
theorem dX11_image_21 : decode cX11_image 21 = .ok (.iload_n 1, 1) := by decide +kernel
theorem dX11_image_22 : decode cX11_image 22 = .ok (.aaload, 1) := by decide +kernel
theorem dX11_image_23 : decode cX11_image 23 = .ok (.aload_n 0, 1) := by decide +kernel
theorem dX11_image_24 : decode cX11_image 24 = .ok (.getfield 27, 3) := by decide +kernel
theorem dX11_image_27 : decode cX11_image 27 = .ok (.invokevirtual 238, 3) := by decide +kernel
theorem dX11_image_30 : decode cX11_image 30 = .ok (.aload_n 0, 1) := by decide +kernel
theorem dX11_image_31 : decode cX11_image 31 = .ok (.getfield 37, 3) := by decide +kernel
theorem dX11_image_34 : decode cX11_image 34 = .ok (.iload_n 1, 1) := by decide +kernel
theorem dX11_image_35 : decode cX11_image 35 = .ok (.iconst 1, 1) := by decide +kernel
theorem dX11_image_36 : decode cX11_image 36 = .ok (.bastore, 1) := by decide +kernel
theorem dX11_image_37 : decode cX11_image 37 = .ok (.iconst 1, 1) := by decide +kernel
theorem dX11_image_38 : decode cX11_image 38 = .ok (.ireturn, 1) := by decide +kernel
theorem dX11_from_0 : decode cX11_from 0 = .ok (.iload_n 1, 1) := by decide +kernel
theorem dX11_from_1 : decode cX11_from 1 = .ok (.iconst 0, 1) := by decide +kernel
theorem dX11_from_2 : decode cX11_from 2 = .ok (.iconst 1, 1) := by decide +kernel
theorem dX11_from_3 : decode cX11_from 3 = .ok (.invokestatic 84, 3) := by decide +kernel
theorem dX11_from_6 : decode cX11_from 6 = .ok (.ifCond .ne 11, 3) := by decide +kernel
theorem dX11_from_9 : decode cX11_from 9 = .ok (.aload_n 0, 1) := by decide +kernel
theorem dX11_from_10 : decode cX11_from 10 = .ok (.iconst 0, 1) := by decide +kernel
theorem dX11_from_11 : decode cX11_from 11 = .ok (.bipush (-2), 2) := by decide +kernel
theorem dX11_from_13 : decode cX11_from 13 = .ok (.invokevirtual 88, 3) := by decide +kernel
theorem dX11_from_16 : decode cX11_from 16 = .ok (.ireturn, 1) := by decide +kernel
theorem dX11_from_17 : decode cX11_from 17 = .ok (.aload_n 0, 1) := by decide +kernel
theorem dX11_from_18 : decode cX11_from 18 = .ok (.getfield 37, 3) := by decide +kernel
theorem dX11_from_21 : decode cX11_from 21 = .ok (.iload_n 1, 1) := by decide +kernel
theorem dX11_from_22 : decode cX11_from 22 = .ok (.baload, 1) := by decide +kernel
theorem dX11_from_23 : decode cX11_from 23 = .ok (.ifCond .ne 11, 3) := by decide +kernel
theorem dX11_from_26 : decode cX11_from 26 = .ok (.aload_n 0, 1) := by decide +kernel
theorem dX11_from_27 : decode cX11_from 27 = .ok (.iconst 1, 1) := by decide +kernel
theorem dX11_from_28 : decode cX11_from 28 = .ok (.bipush (-3), 2) := by decide +kernel
theorem dX11_from_30 : decode cX11_from 30 = .ok (.invokevirtual 88, 3) := by decide +kernel
theorem dX11_from_33 : decode cX11_from 33 = .ok (.ireturn, 1) := by decide +kernel
theorem dX11_from_34 : decode cX11_from 34 = .ok (.aload_n 0, 1) := by decide +kernel
theorem dX11_from_35 : decode cX11_from 35 = .ok (.getfield 27, 3) := by decide +kernel
theorem dX11_from_38 : decode cX11_from 38 = .ok (.aload_n 0, 1) := by decide +kernel
theorem dX11_from_39 : decode cX11_from 39 = .ok (.getfield 33, 3) := by decide +kernel
theorem dX11_from_42 : decode cX11_from 42 = .ok (.iload_n 1, 1) := by decide +kernel
theorem dX11_from_43 : decode cX11_from 43 = .ok (.aaload, 1) := by decide +kernel
theorem dX11_from_44 : decode cX11_from 44 = .ok (.invokevirtual 238, 3) := by decide +kernel
theorem dX11_from_47 : decode cX11_from 47 = .ok (.iconst 1, 1) := by decide +kernel
theorem dX11_from_48 : decode cX11_from 48 = .ok (.ireturn, 1) := by decide +kernel
theorem dX11_status_0 : decode cX11_status 0 = .ok (.iload_n 1, 1) := by decide +kernel
theorem dX11_status_1 : decode cX11_status 1 = .ok (.iconst 0, 1) := by decide +kernel
theorem dX11_status_2 : decode cX11_status 2 = .ok (.iconst 2, 1) := by decide +kernel
theorem dX11_status_3 : decode cX11_status 3 = .ok (.invokestatic 84, 3) := by decide +kernel
theorem dX11_status_6 : decode cX11_status 6 = .ok (.ifCond .ne 10, 3) := by decide +kernel
theorem dX11_status_9 : decode cX11_status 9 = .ok (.aload_n 0, 1) := by decide +kernel
theorem dX11_status_10 : decode cX11_status 10 = .ok (.iconst 0, 1) := by decide +kernel
theorem dX11_status_11 : decode cX11_status 11 = .ok (.iconst (-1), 1) := by decide +kernel
theorem dX11_status_12 : decode cX11_status 12 = .ok (.invokevirtual 88, 3) := by decide +kernel
theorem dX11_status_15 : decode cX11_status 15 = .ok (.ireturn, 1) := by decide +kernel
theorem dX11_status_16 : decode cX11_status 16 = .ok (.aload_n 0, 1) := by decide +kernel
theorem dX11_status_17 : decode cX11_status 17 = .ok (.getfield 73, 3) := by decide +kernel
theorem dX11_status_20 : decode cX11_status 20 = .ok (.iload_n 1, 1) := by decide +kernel
theorem dX11_status_21 : decode cX11_status 21 = .ok (.iaload, 1) := by decide +kernel
theorem dX11_status_22 : decode cX11_status 22 = .ok (.ireturn, 1) := by decide +kernel
theorem dX11_count_0 : decode cX11_count 0 = .ok (.iload_n 1, 1) := by decide +kernel
theorem dX11_count_1 : decode cX11_count 1 = .ok (.iconst 0, 1) := by decide +kernel
theorem dX11_count_2 : decode cX11_count 2 = .ok (.bipush 6, 2) := by decide +kernel
theorem dX11_count_4 : decode cX11_count 4 = .ok (.invokestatic 84, 3) := by decide +kernel
theorem dX11_count_7 : decode cX11_count 7 = .ok (.ifCond .ne 11, 3) := by decide +kernel
theorem dX11_count_10 : decode cX11_count 10 = .ok (.aload_n 0, 1) := by decide +kernel
theorem dX11_count_11 : decode cX11_count 11 = .ok (.iconst 0, 1) := by decide +kernel
theorem dX11_count_12 : decode cX11_count 12 = .ok (.bipush (-2), 2) := by decide +kernel
theorem dX11_count_14 : decode cX11_count 14 = .ok (.invokevirtual 88, 3) := by decide +kernel
theorem dX11_count_17 : decode cX11_count 17 = .ok (.ireturn, 1) := by decide +kernel
theorem dX11_count_18 : decode cX11_count 18 = .ok (.aload_n 0, 1) := by decide +kernel
theorem dX11_count_19 : decode cX11_count 19 = .ok (.iload_n 1, 1) := by decide +kernel
theorem dX11_count_20 : decode cX11_count 20 = .ok (.invokevirtual 241, 3) := by decide +kernel
theorem dX11_count_23 : decode cX11_count 23 = .ok (.ireturn, 1) := by decide +kernel
theorem dX11_digest_0 : decode cX11_digest 0 = .ok (.ldc2_w 244, 3) := by decide +kernel
theorem dX11_digest_3 : decode cX11_digest 3 = .ok (.lstore_n 1, 1) := by decide +kernel
theorem dX11_digest_4 : decode cX11_digest 4 = .ok (.iconst 0, 1) := by decide +kernel
theorem dX11_digest_5 : decode cX11_digest 5 = .ok (.istore_n 3, 1) := by decide +kernel
theorem dX11_digest_6 : decode cX11_digest 6 = .ok (.iload_n 3, 1) := by decide +kernel
theorem dX11_digest_7 : decode cX11_digest 7 = .ok (.bipush 7, 2) := by decide +kernel
theorem dX11_digest_9 : decode cX11_digest 9 = .ok (.if_icmp .ge 22, 3) := by decide +kernel
theorem dX11_digest_12 : decode cX11_digest 12 = .ok (.ldc2_w 246, 3) := by decide +kernel
theorem dX11_digest_15 : decode cX11_digest 15 = .ok (.lload_n 1, 1) := by decide +kernel
theorem dX11_digest_16 : decode cX11_digest 16 = .ok (.lmul, 1) := by decide +kernel
theorem dX11_digest_17 : decode cX11_digest 17 = .ok (.aload_n 0, 1) := by decide +kernel
theorem dX11_digest_18 : decode cX11_digest 18 = .ok (.iload_n 3, 1) := by decide +kernel
theorem dX11_digest_19 : decode cX11_digest 19 = .ok (.invokevirtual 241, 3) := by decide +kernel
theorem dX11_digest_22 : decode cX11_digest 22 = .ok (.i2l, 1) := by decide +kernel
theorem dX11_digest_23 : decode cX11_digest 23 = .ok (.ladd, 1) := by decide +kernel
theorem dX11_digest_24 : decode cX11_digest 24 = .ok (.lstore_n 1, 1) := by decide +kernel
theorem dX11_digest_25 : decode cX11_digest 25 = .ok (.iinc 3 1, 3) := by decide +kernel
theorem dX11_digest_28 : decode cX11_digest 28 = .ok (.goto (-22), 3) := by decide +kernel
theorem dX11_digest_31 : decode cX11_digest 31 = .ok (.aload_n 0, 1) := by decide +kernel
theorem dX11_digest_32 : decode cX11_digest 32 = .ok (.getfield 27, 3) := by decide +kernel
theorem dX11_digest_35 : decode cX11_digest 35 = .ok (.getfield 43, 3) := by decide +kernel
theorem dX11_digest_38 : decode cX11_digest 38 = .ok (.lload_n 1, 1) := by decide +kernel
theorem dX11_digest_39 : decode cX11_digest 39 = .ok (.invokevirtual 248, 3) := by decide +kernel
theorem dX11_digest_42 : decode cX11_digest 42 = .ok (.lstore_n 1, 1) := by decide +kernel
theorem dX11_digest_43 : decode cX11_digest 43 = .ok (.ldc2_w 246, 3) := by decide +kernel
theorem dX11_digest_46 : decode cX11_digest 46 = .ok (.lload_n 1, 1) := by decide +kernel
theorem dX11_digest_47 : decode cX11_digest 47 = .ok (.lmul, 1) := by decide +kernel
theorem dX11_digest_48 : decode cX11_digest 48 = .ok (.aload_n 0, 1) := by decide +kernel
theorem dX11_digest_49 : decode cX11_digest 49 = .ok (.getfield 77, 3) := by decide +kernel
theorem dX11_digest_52 : decode cX11_digest 52 = .ok (.ladd, 1) := by decide +kernel
theorem dX11_digest_53 : decode cX11_digest 53 = .ok (.lstore_n 1, 1) := by decide +kernel
theorem dX11_digest_54 : decode cX11_digest 54 = .ok (.ldc2_w 246, 3) := by decide +kernel
theorem dX11_digest_57 : decode cX11_digest 57 = .ok (.lload_n 1, 1) := by decide +kernel
theorem dX11_digest_58 : decode cX11_digest 58 = .ok (.lmul, 1) := by decide +kernel
theorem dX11_digest_59 : decode cX11_digest 59 = .ok (.aload_n 0, 1) := by decide +kernel
theorem dX11_digest_60 : decode cX11_digest 60 = .ok (.getfield 81, 3) := by decide +kernel
theorem dX11_digest_63 : decode cX11_digest 63 = .ok (.ladd, 1) := by decide +kernel
theorem dX11_digest_64 : decode cX11_digest 64 = .ok (.lreturn, 1) := by decide +kernel
theorem dX11_counted_0 : decode cX11_counted 0 = .ok (.iload_n 1, 1) := by decide +kernel
theorem dX11_counted_1 : decode cX11_counted 1 = .ok (.tableswitch 102 0 5 #[39, 50, 61, 72, 83, 94], 39) := by decide +kernel
theorem dX11_counted_40 : decode cX11_counted 40 = .ok (.aload_n 0, 1) := by decide +kernel
theorem dX11_counted_41 : decode cX11_counted 41 = .ok (.getfield 27, 3) := by decide +kernel
theorem dX11_counted_44 : decode cX11_counted 44 = .ok (.getfield 43, 3) := by decide +kernel
theorem dX11_counted_47 : decode cX11_counted 47 = .ok (.getfield 92, 3) := by decide +kernel
theorem dX11_counted_50 : decode cX11_counted 50 = .ok (.ireturn, 1) := by decide +kernel
theorem dX11_counted_51 : decode cX11_counted 51 = .ok (.aload_n 0, 1) := by decide +kernel
theorem dX11_counted_52 : decode cX11_counted 52 = .ok (.getfield 27, 3) := by decide +kernel
theorem dX11_counted_55 : decode cX11_counted 55 = .ok (.getfield 43, 3) := by decide +kernel
theorem dX11_counted_58 : decode cX11_counted 58 = .ok (.invokevirtual 251, 3) := by decide +kernel
theorem dX11_counted_61 : decode cX11_counted 61 = .ok (.ireturn, 1) := by decide +kernel
theorem dX11_counted_62 : decode cX11_counted 62 = .ok (.aload_n 0, 1) := by decide +kernel
theorem dX11_counted_63 : decode cX11_counted 63 = .ok (.getfield 27, 3) := by decide +kernel
theorem dX11_counted_66 : decode cX11_counted 66 = .ok (.getfield 43, 3) := by decide +kernel
theorem dX11_counted_69 : decode cX11_counted 69 = .ok (.getfield 120, 3) := by decide +kernel
theorem dX11_counted_72 : decode cX11_counted 72 = .ok (.ireturn, 1) := by decide +kernel
theorem dX11_counted_73 : decode cX11_counted 73 = .ok (.aload_n 0, 1) := by decide +kernel
theorem dX11_counted_74 : decode cX11_counted 74 = .ok (.getfield 27, 3) := by decide +kernel
theorem dX11_counted_77 : decode cX11_counted 77 = .ok (.getfield 43, 3) := by decide +kernel
theorem dX11_counted_80 : decode cX11_counted 80 = .ok (.getfield 254, 3) := by decide +kernel
theorem dX11_counted_83 : decode cX11_counted 83 = .ok (.ireturn, 1) := by decide +kernel
theorem dX11_counted_84 : decode cX11_counted 84 = .ok (.aload_n 0, 1) := by decide +kernel
theorem dX11_counted_85 : decode cX11_counted 85 = .ok (.getfield 27, 3) := by decide +kernel
theorem dX11_counted_88 : decode cX11_counted 88 = .ok (.getfield 43, 3) := by decide +kernel
theorem dX11_counted_91 : decode cX11_counted 91 = .ok (.getfield 257, 3) := by decide +kernel
theorem dX11_counted_94 : decode cX11_counted 94 = .ok (.ireturn, 1) := by decide +kernel
theorem dX11_counted_95 : decode cX11_counted 95 = .ok (.aload_n 0, 1) := by decide +kernel
theorem dX11_counted_96 : decode cX11_counted 96 = .ok (.getfield 27, 3) := by decide +kernel
theorem dX11_counted_99 : decode cX11_counted 99 = .ok (.getfield 148, 3) := by decide +kernel
theorem dX11_counted_102 : decode cX11_counted 102 = .ok (.ireturn, 1) := by decide +kernel
theorem dX11_counted_103 : decode cX11_counted 103 = .ok (.aload_n 0, 1) := by decide +kernel
theorem dX11_counted_104 : decode cX11_counted 104 = .ok (.getfield 60, 3) := by decide +kernel
theorem dX11_counted_107 : decode cX11_counted 107 = .ok (.getfield 127, 3) := by decide +kernel
theorem dX11_counted_110 : decode cX11_counted 110 = .ok (.ireturn, 1) := by decide +kernel
theorem dX11_refuse_0 : decode cX11_refuse 0 = .ok (.aload_n 0, 1) := by decide +kernel
theorem dX11_refuse_1 : decode cX11_refuse 1 = .ok (.getfield 73, 3) := by decide +kernel
theorem dX11_refuse_4 : decode cX11_refuse 4 = .ok (.iload_n 1, 1) := by decide +kernel
theorem dX11_refuse_5 : decode cX11_refuse 5 = .ok (.dup2, 1) := by decide +kernel
theorem dX11_refuse_6 : decode cX11_refuse 6 = .ok (.iaload, 1) := by decide +kernel
theorem dX11_refuse_7 : decode cX11_refuse 7 = .ok (.iconst 1, 1) := by decide +kernel
theorem dX11_refuse_8 : decode cX11_refuse 8 = .ok (.iadd, 1) := by decide +kernel
theorem dX11_refuse_9 : decode cX11_refuse 9 = .ok (.iastore, 1) := by decide +kernel
theorem dX11_refuse_10 : decode cX11_refuse 10 = .ok (.iload_n 2, 1) := by decide +kernel
theorem dX11_refuse_11 : decode cX11_refuse 11 = .ok (.ireturn, 1) := by decide +kernel
theorem dX11_isPlace_0 : decode cX11_isPlace 0 = .ok (.iload_n 1, 1) := by decide +kernel
theorem dX11_isPlace_1 : decode cX11_isPlace 1 = .ok (.iconst 0, 1) := by decide +kernel
theorem dX11_isPlace_2 : decode cX11_isPlace 2 = .ok (.aload_n 0, 1) := by decide +kernel
theorem dX11_isPlace_3 : decode cX11_isPlace 3 = .ok (.getfield 27, 3) := by decide +kernel
theorem dX11_isPlace_6 : decode cX11_isPlace 6 = .ok (.getfield 43, 3) := by decide +kernel
theorem dX11_isPlace_9 : decode cX11_isPlace 9 = .ok (.getfield 92, 3) := by decide +kernel
theorem dX11_isPlace_12 : decode cX11_isPlace 12 = .ok (.iconst 1, 1) := by decide +kernel
theorem dX11_isPlace_13 : decode cX11_isPlace 13 = .ok (.isub, 1) := by decide +kernel
theorem dX11_isPlace_14 : decode cX11_isPlace 14 = .ok (.invokestatic 84, 3) := by decide +kernel
theorem dX11_isPlace_17 : decode cX11_isPlace 17 = .ok (.ireturn, 1) := by decide +kernel
theorem dX11_isMoon_0 : decode cX11_isMoon 0 = .ok (.iload_n 1, 1) := by decide +kernel
theorem dX11_isMoon_1 : decode cX11_isMoon 1 = .ok (.iconst 0, 1) := by decide +kernel
theorem dX11_isMoon_2 : decode cX11_isMoon 2 = .ok (.aload_n 0, 1) := by decide +kernel
theorem dX11_isMoon_3 : decode cX11_isMoon 3 = .ok (.getfield 27, 3) := by decide +kernel
theorem dX11_isMoon_6 : decode cX11_isMoon 6 = .ok (.getfield 43, 3) := by decide +kernel
theorem dX11_isMoon_9 : decode cX11_isMoon 9 = .ok (.getfield 120, 3) := by decide +kernel
theorem dX11_isMoon_12 : decode cX11_isMoon 12 = .ok (.iconst 1, 1) := by decide +kernel
theorem dX11_isMoon_13 : decode cX11_isMoon 13 = .ok (.isub, 1) := by decide +kernel
theorem dX11_isMoon_14 : decode cX11_isMoon 14 = .ok (.invokestatic 84, 3) := by decide +kernel
theorem dX11_isMoon_17 : decode cX11_isMoon 17 = .ok (.ireturn, 1) := by decide +kernel
theorem dX11_isRounds_0 : decode cX11_isRounds 0 = .ok (.iload_n 0, 1) := by decide +kernel
theorem dX11_isRounds_1 : decode cX11_isRounds 1 = .ok (.iconst 0, 1) := by decide +kernel
theorem dX11_isRounds_2 : decode cX11_isRounds 2 = .ok (.bipush 60, 2) := by decide +kernel
theorem dX11_isRounds_4 : decode cX11_isRounds 4 = .ok (.invokestatic 84, 3) := by decide +kernel
theorem dX11_isRounds_7 : decode cX11_isRounds 7 = .ok (.ireturn, 1) := by decide +kernel
theorem dX11_isLane_0 : decode cX11_isLane 0 = .ok (.iload_n 0, 1) := by decide +kernel
theorem dX11_isLane_1 : decode cX11_isLane 1 = .ok (.ifCond .lt 12, 3) := by decide +kernel
theorem dX11_isLane_4 : decode cX11_isLane 4 = .ok (.iload_n 0, 1) := by decide +kernel
theorem dX11_isLane_5 : decode cX11_isLane 5 = .ok (.iconst 5, 1) := by decide +kernel
theorem dX11_isLane_6 : decode cX11_isLane 6 = .ok (.if_icmp .ge 7, 3) := by decide +kernel
theorem dX11_isLane_9 : decode cX11_isLane 9 = .ok (.iconst 1, 1) := by decide +kernel
theorem dX11_isLane_10 : decode cX11_isLane 10 = .ok (.goto 4, 3) := by decide +kernel
theorem dX11_isLane_13 : decode cX11_isLane 13 = .ok (.iconst 0, 1) := by decide +kernel
theorem dX11_isLane_14 : decode cX11_isLane 14 = .ok (.ireturn, 1) := by decide +kernel
theorem dX11_isWithin_0 : decode cX11_isWithin 0 = .ok (.iload_n 0, 1) := by decide +kernel
theorem dX11_isWithin_1 : decode cX11_isWithin 1 = .ok (.iload_n 1, 1) := by decide +kernel
theorem dX11_isWithin_2 : decode cX11_isWithin 2 = .ok (.if_icmp .lt 12, 3) := by decide +kernel
theorem dX11_isWithin_5 : decode cX11_isWithin 5 = .ok (.iload_n 0, 1) := by decide +kernel
theorem dX11_isWithin_6 : decode cX11_isWithin 6 = .ok (.iload_n 2, 1) := by decide +kernel
theorem dX11_isWithin_7 : decode cX11_isWithin 7 = .ok (.if_icmp .gt 7, 3) := by decide +kernel
theorem dX11_isWithin_10 : decode cX11_isWithin 10 = .ok (.iconst 1, 1) := by decide +kernel
theorem dX11_isWithin_11 : decode cX11_isWithin 11 = .ok (.goto 4, 3) := by decide +kernel
theorem dX11_isWithin_14 : decode cX11_isWithin 14 = .ok (.iconst 0, 1) := by decide +kernel
theorem dX11_isWithin_15 : decode cX11_isWithin 15 = .ok (.ireturn, 1) := by decide +kernel
theorem dX11_greatestDivisor_0 : decode cX11_greatestDivisor 0 = .ok (.lload_n 0, 1) := by decide +kernel
theorem dX11_greatestDivisor_1 : decode cX11_greatestDivisor 1 = .ok (.lstore 4, 2) := by decide +kernel
theorem dX11_greatestDivisor_3 : decode cX11_greatestDivisor 3 = .ok (.lload_n 2, 1) := by decide +kernel
theorem dX11_greatestDivisor_4 : decode cX11_greatestDivisor 4 = .ok (.lstore 6, 2) := by decide +kernel
theorem dX11_greatestDivisor_6 : decode cX11_greatestDivisor 6 = .ok (.iconst 0, 1) := by decide +kernel
theorem dX11_greatestDivisor_7 : decode cX11_greatestDivisor 7 = .ok (.istore 8, 2) := by decide +kernel
theorem dX11_greatestDivisor_9 : decode cX11_greatestDivisor 9 = .ok (.iload 8, 2) := by decide +kernel
theorem dX11_greatestDivisor_11 : decode cX11_greatestDivisor 11 = .ok (.sipush 200, 3) := by decide +kernel
theorem dX11_greatestDivisor_14 : decode cX11_greatestDivisor 14 = .ok (.if_icmp .ge 31, 3) := by decide +kernel
theorem dX11_greatestDivisor_17 : decode cX11_greatestDivisor 17 = .ok (.lload 6, 2) := by decide +kernel
theorem dX11_greatestDivisor_19 : decode cX11_greatestDivisor 19 = .ok (.lconst 0, 1) := by decide +kernel
theorem dX11_greatestDivisor_20 : decode cX11_greatestDivisor 20 = .ok (.lcmp, 1) := by decide +kernel
theorem dX11_greatestDivisor_21 : decode cX11_greatestDivisor 21 = .ok (.ifCond .eq 24, 3) := by decide +kernel
theorem dX11_greatestDivisor_24 : decode cX11_greatestDivisor 24 = .ok (.lload 4, 2) := by decide +kernel
theorem dX11_greatestDivisor_26 : decode cX11_greatestDivisor 26 = .ok (.lload 6, 2) := by decide +kernel
theorem dX11_greatestDivisor_28 : decode cX11_greatestDivisor 28 = .ok (.lrem, 1) := by decide +kernel
theorem dX11_greatestDivisor_29 : decode cX11_greatestDivisor 29 = .ok (.lstore 9, 2) := by decide +kernel
theorem dX11_greatestDivisor_31 : decode cX11_greatestDivisor 31 = .ok (.lload 6, 2) := by decide +kernel
theorem dX11_greatestDivisor_33 : decode cX11_greatestDivisor 33 = .ok (.lstore 4, 2) := by decide +kernel
theorem dX11_greatestDivisor_35 : decode cX11_greatestDivisor 35 = .ok (.lload 9, 2) := by decide +kernel
theorem dX11_greatestDivisor_37 : decode cX11_greatestDivisor 37 = .ok (.lstore 6, 2) := by decide +kernel
theorem dX11_greatestDivisor_39 : decode cX11_greatestDivisor 39 = .ok (.iinc 8 1, 3) := by decide +kernel
theorem dX11_greatestDivisor_42 : decode cX11_greatestDivisor 42 = .ok (.goto (-33), 3) := by decide +kernel
theorem dX11_greatestDivisor_45 : decode cX11_greatestDivisor 45 = .ok (.lload 4, 2) := by decide +kernel
theorem dX11_greatestDivisor_47 : decode cX11_greatestDivisor 47 = .ok (.lreturn, 1) := by decide +kernel
theorem dX12_init_0 : decode cX12_init 0 = .ok (.aload_n 0, 1) := by decide +kernel
theorem dX12_init_1 : decode cX12_init 1 = .ok (.invokespecial 1, 3) := by decide +kernel
theorem dX12_init_4 : decode cX12_init 4 = .ok (.aload_n 0, 1) := by decide +kernel
theorem dX12_init_5 : decode cX12_init 5 = .ok (.sipush 913, 3) := by decide +kernel
theorem dX12_init_8 : decode cX12_init 8 = .ok (.newarray .int, 2) := by decide +kernel
theorem dX12_init_10 : decode cX12_init 10 = .ok (.putfield 7, 3) := by decide +kernel
theorem dX12_init_13 : decode cX12_init 13 = .ok (.aload_n 0, 1) := by decide +kernel
theorem dX12_init_14 : decode cX12_init 14 = .ok (.sipush 1826, 3) := by decide +kernel
theorem dX12_init_17 : decode cX12_init 17 = .ok (.newarray .int, 2) := by decide +kernel
theorem dX12_init_19 : decode cX12_init 19 = .ok (.putfield 13, 3) := by decide +kernel
theorem dX12_init_22 : decode cX12_init 22 = .ok (.aload_n 0, 1) := by decide +kernel
theorem dX12_init_23 : decode cX12_init 23 = .ok (.iconst 2, 1) := by decide +kernel
theorem dX12_init_24 : decode cX12_init 24 = .ok (.newarray .boolean, 2) := by decide +kernel
theorem dX12_init_26 : decode cX12_init 26 = .ok (.putfield 16, 3) := by decide +kernel
theorem dX12_init_29 : decode cX12_init 29 = .ok (.aload_n 0, 1) := by decide +kernel
theorem dX12_init_30 : decode cX12_init 30 = .ok (.iconst 3, 1) := by decide +kernel
theorem dX12_init_31 : decode cX12_init 31 = .ok (.newarray .int, 2) := by decide +kernel
theorem dX12_init_33 : decode cX12_init 33 = .ok (.putfield 20, 3) := by decide +kernel
theorem dX12_init_36 : decode cX12_init 36 = .ok (.aload_n 0, 1) := by decide +kernel
theorem dX12_init_37 : decode cX12_init 37 = .ok (.lconst 1, 1) := by decide +kernel
theorem dX12_init_38 : decode cX12_init 38 = .ok (.putfield 23, 3) := by decide +kernel
theorem dX12_init_41 : decode cX12_init 41 = .ok (.aload_n 0, 1) := by decide +kernel
theorem dX12_init_42 : decode cX12_init 42 = .ok (.bipush 120, 2) := by decide +kernel
theorem dX12_init_44 : decode cX12_init 44 = .ok (.newarray .int, 2) := by decide +kernel
theorem dX12_init_46 : decode cX12_init 46 = .ok (.putfield 27, 3) := by decide +kernel
theorem dX12_init_49 : decode cX12_init 49 = .ok (.aload_n 0, 1) := by decide +kernel
theorem dX12_init_50 : decode cX12_init 50 = .ok (.bipush 120, 2) := by decide +kernel
theorem dX12_init_52 : decode cX12_init 52 = .ok (.newarray .int, 2) := by decide +kernel
theorem dX12_init_54 : decode cX12_init 54 = .ok (.putfield 30, 3) := by decide +kernel
theorem dX12_init_57 : decode cX12_init 57 = .ok (.aload_n 0, 1) := by decide +kernel
theorem dX12_init_58 : decode cX12_init 58 = .ok (.iconst 4, 1) := by decide +kernel
theorem dX12_init_59 : decode cX12_init 59 = .ok (.newarray .int, 2) := by decide +kernel
theorem dX12_init_61 : decode cX12_init 61 = .ok (.putfield 33, 3) := by decide +kernel
theorem dX12_init_64 : decode cX12_init 64 = .ok (.aload_n 0, 1) := by decide +kernel
theorem dX12_init_65 : decode cX12_init 65 = .ok (.sipush 1560, 3) := by decide +kernel
theorem dX12_init_68 : decode cX12_init 68 = .ok (.newarray .int, 2) := by decide +kernel
theorem dX12_init_70 : decode cX12_init 70 = .ok (.putfield 36, 3) := by decide +kernel
theorem dX12_init_73 : decode cX12_init 73 = .ok (.aload_n 0, 1) := by decide +kernel
theorem dX12_init_74 : decode cX12_init 74 = .ok (.iconst 5, 1) := by decide +kernel
theorem dX12_init_75 : decode cX12_init 75 = .ok (.newarray .int, 2) := by decide +kernel
theorem dX12_init_77 : decode cX12_init 77 = .ok (.putfield 39, 3) := by decide +kernel
theorem dX12_init_80 : decode cX12_init 80 = .ok (.aload_n 0, 1) := by decide +kernel
theorem dX12_init_81 : decode cX12_init 81 = .ok (.sipush 224, 3) := by decide +kernel
theorem dX12_init_84 : decode cX12_init 84 = .ok (.newarray .int, 2) := by decide +kernel
theorem dX12_init_86 : decode cX12_init 86 = .ok (.putfield 42, 3) := by decide +kernel
theorem dX12_init_89 : decode cX12_init 89 = .ok (.aload_n 0, 1) := by decide +kernel
theorem dX12_init_90 : decode cX12_init 90 = .ok (.sipush 250, 3) := by decide +kernel
theorem dX12_init_93 : decode cX12_init 93 = .ok (.newarray .int, 2) := by decide +kernel
theorem dX12_init_95 : decode cX12_init 95 = .ok (.putfield 45, 3) := by decide +kernel
theorem dX12_init_98 : decode cX12_init 98 = .ok (.aload_n 0, 1) := by decide +kernel
theorem dX12_init_99 : decode cX12_init 99 = .ok (.sipush 151, 3) := by decide +kernel
theorem dX12_init_102 : decode cX12_init 102 = .ok (.newarray .int, 2) := by decide +kernel
theorem dX12_init_104 : decode cX12_init 104 = .ok (.putfield 48, 3) := by decide +kernel
theorem dX12_init_107 : decode cX12_init 107 = .ok (.aload_n 0, 1) := by decide +kernel
theorem dX12_init_108 : decode cX12_init 108 = .ok (.iconst 4, 1) := by decide +kernel
theorem dX12_init_109 : decode cX12_init 109 = .ok (.newarray .int, 2) := by decide +kernel
theorem dX12_init_111 : decode cX12_init 111 = .ok (.putfield 51, 3) := by decide +kernel
theorem dX12_init_114 : decode cX12_init 114 = .ok (.aload_n 0, 1) := by decide +kernel
theorem dX12_init_115 : decode cX12_init 115 = .ok (.getfield 7, 3) := by decide +kernel
theorem dX12_init_118 : decode cX12_init 118 = .ok (.bipush 12, 2) := by decide +kernel
theorem dX12_init_120 : decode cX12_init 120 = .ok (.invokestatic 54, 3) := by decide +kernel
theorem dX12_init_123 : decode cX12_init 123 = .ok (.return_, 1) := by decide +kernel
theorem dX12_in_0 : decode cX12_in 0 = .ok (.lload_n 0, 1) := by decide +kernel
theorem dX12_in_1 : decode cX12_in 1 = .ok (.lload_n 2, 1) := by decide +kernel
theorem dX12_in_2 : decode cX12_in 2 = .ok (.lcmp, 1) := by decide +kernel
theorem dX12_in_3 : decode cX12_in 3 = .ok (.ifCond .lt 14, 3) := by decide +kernel
theorem dX12_in_6 : decode cX12_in 6 = .ok (.lload_n 0, 1) := by decide +kernel
theorem dX12_in_7 : decode cX12_in 7 = .ok (.lload 4, 2) := by decide +kernel
theorem dX12_in_9 : decode cX12_in 9 = .ok (.lcmp, 1) := by decide +kernel
theorem dX12_in_10 : decode cX12_in 10 = .ok (.ifCond .gt 7, 3) := by decide +kernel
theorem dX12_in_13 : decode cX12_in 13 = .ok (.iconst 1, 1) := by decide +kernel
theorem dX12_in_14 : decode cX12_in 14 = .ok (.goto 4, 3) := by decide +kernel
theorem dX12_in_17 : decode cX12_in 17 = .ok (.iconst 0, 1) := by decide +kernel
theorem dX12_in_18 : decode cX12_in 18 = .ok (.ireturn, 1) := by decide +kernel
theorem dX12_bad_0 : decode cX12_bad 0 = .ok (.aload_n 0, 1) := by decide +kernel
theorem dX12_bad_1 : decode cX12_bad 1 = .ok (.getfield 20, 3) := by decide +kernel
theorem dX12_bad_4 : decode cX12_bad 4 = .ok (.iconst 0, 1) := by decide +kernel
theorem dX12_bad_5 : decode cX12_bad 5 = .ok (.dup2, 1) := by decide +kernel
theorem dX12_bad_6 : decode cX12_bad 6 = .ok (.iaload, 1) := by decide +kernel
theorem dX12_bad_7 : decode cX12_bad 7 = .ok (.iconst 1, 1) := by decide +kernel
theorem dX12_bad_8 : decode cX12_bad 8 = .ok (.iadd, 1) := by decide +kernel
theorem dX12_bad_9 : decode cX12_bad 9 = .ok (.iastore, 1) := by decide +kernel
theorem dX12_bad_10 : decode cX12_bad 10 = .ok (.iload_n 1, 1) := by decide +kernel
theorem dX12_bad_11 : decode cX12_bad 11 = .ok (.ireturn, 1) := by decide +kernel
theorem dX12_no_0 : decode cX12_no 0 = .ok (.aload_n 0, 1) := by decide +kernel
theorem dX12_no_1 : decode cX12_no 1 = .ok (.getfield 20, 3) := by decide +kernel
theorem dX12_no_4 : decode cX12_no 4 = .ok (.iconst 1, 1) := by decide +kernel
theorem dX12_no_5 : decode cX12_no 5 = .ok (.dup2, 1) := by decide +kernel
theorem dX12_no_6 : decode cX12_no 6 = .ok (.iaload, 1) := by decide +kernel
theorem dX12_no_7 : decode cX12_no 7 = .ok (.iconst 1, 1) := by decide +kernel
theorem dX12_no_8 : decode cX12_no 8 = .ok (.iadd, 1) := by decide +kernel
theorem dX12_no_9 : decode cX12_no 9 = .ok (.iastore, 1) := by decide +kernel
theorem dX12_no_10 : decode cX12_no 10 = .ok (.bipush (-3), 2) := by decide +kernel
theorem dX12_no_12 : decode cX12_no 12 = .ok (.ireturn, 1) := by decide +kernel
theorem dX12_full_0 : decode cX12_full 0 = .ok (.aload_n 0, 1) := by decide +kernel
theorem dX12_full_1 : decode cX12_full 1 = .ok (.getfield 20, 3) := by decide +kernel
theorem dX12_full_4 : decode cX12_full 4 = .ok (.iconst 2, 1) := by decide +kernel
theorem dX12_full_5 : decode cX12_full 5 = .ok (.dup2, 1) := by decide +kernel
theorem dX12_full_6 : decode cX12_full 6 = .ok (.iaload, 1) := by decide +kernel
theorem dX12_full_7 : decode cX12_full 7 = .ok (.iconst 1, 1) := by decide +kernel
theorem dX12_full_8 : decode cX12_full 8 = .ok (.iadd, 1) := by decide +kernel
theorem dX12_full_9 : decode cX12_full 9 = .ok (.iastore, 1) := by decide +kernel
theorem dX12_full_10 : decode cX12_full 10 = .ok (.bipush (-4), 2) := by decide +kernel
theorem dX12_full_12 : decode cX12_full 12 = .ok (.ireturn, 1) := by decide +kernel
theorem dX12_bits_0 : decode cX12_bits 0 = .ok (.iconst 0, 1) := by decide +kernel
theorem dX12_bits_1 : decode cX12_bits 1 = .ok (.istore_n 1, 1) := by decide +kernel
theorem dX12_bits_2 : decode cX12_bits 2 = .ok (.iload_n 0, 1) := by decide +kernel
theorem dX12_bits_3 : decode cX12_bits 3 = .ok (.istore_n 2, 1) := by decide +kernel
theorem dX12_bits_4 : decode cX12_bits 4 = .ok (.iload_n 2, 1) := by decide +kernel
theorem dX12_bits_5 : decode cX12_bits 5 = .ok (.ifCond .le 16, 3) := by decide +kernel
theorem dX12_bits_8 : decode cX12_bits 8 = .ok (.iload_n 1, 1) := by decide +kernel
theorem dX12_bits_9 : decode cX12_bits 9 = .ok (.iload_n 2, 1) := by decide +kernel
theorem dX12_bits_10 : decode cX12_bits 10 = .ok (.iconst 1, 1) := by decide +kernel
theorem dX12_bits_11 : decode cX12_bits 11 = .ok (.iand, 1) := by decide +kernel
theorem dX12_bits_12 : decode cX12_bits 12 = .ok (.iadd, 1) := by decide +kernel
theorem dX12_bits_13 : decode cX12_bits 13 = .ok (.istore_n 1, 1) := by decide +kernel
theorem dX12_bits_14 : decode cX12_bits 14 = .ok (.iload_n 2, 1) := by decide +kernel
theorem dX12_bits_15 : decode cX12_bits 15 = .ok (.iconst 1, 1) := by decide +kernel
theorem dX12_bits_16 : decode cX12_bits 16 = .ok (.ishr, 1) := by decide +kernel
theorem dX12_bits_17 : decode cX12_bits 17 = .ok (.istore_n 2, 1) := by decide +kernel
theorem dX12_bits_18 : decode cX12_bits 18 = .ok (.goto (-14), 3) := by decide +kernel
theorem dX12_bits_21 : decode cX12_bits 21 = .ok (.iload_n 1, 1) := by decide +kernel
theorem dX12_bits_22 : decode cX12_bits 22 = .ok (.ireturn, 1) := by decide +kernel
theorem dX12_begin_0 : decode cX12_begin 0 = .ok (.iconst 0, 1) := by decide +kernel
theorem dX12_begin_1 : decode cX12_begin 1 = .ok (.istore_n 2, 1) := by decide +kernel
theorem dX12_begin_2 : decode cX12_begin 2 = .ok (.iload_n 2, 1) := by decide +kernel
theorem dX12_begin_3 : decode cX12_begin 3 = .ok (.sipush 151, 3) := by decide +kernel
theorem dX12_begin_6 : decode cX12_begin 6 = .ok (.if_icmp .ge 13, 3) := by decide +kernel
theorem dX12_begin_9 : decode cX12_begin 9 = .ok (.aload_n 0, 1) := by decide +kernel
theorem dX12_begin_10 : decode cX12_begin 10 = .ok (.iload_n 2, 1) := by decide +kernel
theorem dX12_begin_11 : decode cX12_begin 11 = .ok (.iconst 0, 1) := by decide +kernel
theorem dX12_begin_12 : decode cX12_begin 12 = .ok (.iastore, 1) := by decide +kernel
theorem dX12_begin_13 : decode cX12_begin 13 = .ok (.iinc 2 1, 3) := by decide +kernel
theorem dX12_begin_16 : decode cX12_begin 16 = .ok (.goto (-14), 3) := by decide +kernel
theorem dX12_begin_19 : decode cX12_begin 19 = .ok (.aload_n 0, 1) := by decide +kernel
theorem dX12_begin_20 : decode cX12_begin 20 = .ok (.iconst 0, 1) := by decide +kernel
theorem dX12_begin_21 : decode cX12_begin 21 = .ok (.iload_n 1, 1) := by decide +kernel
theorem dX12_begin_22 : decode cX12_begin 22 = .ok (.iastore, 1) := by decide +kernel
theorem dX12_begin_23 : decode cX12_begin 23 = .ok (.iconst 0, 1) := by decide +kernel
theorem dX12_begin_24 : decode cX12_begin 24 = .ok (.istore_n 2, 1) := by decide +kernel
theorem dX12_begin_25 : decode cX12_begin 25 = .ok (.iload_n 2, 1) := by decide +kernel
theorem dX12_begin_26 : decode cX12_begin 26 = .ok (.iconst 5, 1) := by decide +kernel
theorem dX12_begin_27 : decode cX12_begin 27 = .ok (.if_icmp .ge 17, 3) := by decide +kernel
theorem dX12_begin_30 : decode cX12_begin 30 = .ok (.aload_n 0, 1) := by decide +kernel
theorem dX12_begin_31 : decode cX12_begin 31 = .ok (.iconst 1, 1) := by decide +kernel
theorem dX12_begin_32 : decode cX12_begin 32 = .ok (.iload_n 2, 1) := by decide +kernel
theorem dX12_begin_33 : decode cX12_begin 33 = .ok (.iadd, 1) := by decide +kernel
theorem dX12_begin_34 : decode cX12_begin 34 = .ok (.iconst 5, 1) := by decide +kernel
theorem dX12_begin_35 : decode cX12_begin 35 = .ok (.iload_n 2, 1) := by decide +kernel
theorem dX12_begin_36 : decode cX12_begin 36 = .ok (.isub, 1) := by decide +kernel
theorem dX12_begin_37 : decode cX12_begin 37 = .ok (.iastore, 1) := by decide +kernel
theorem dX12_begin_38 : decode cX12_begin 38 = .ok (.iinc 2 1, 3) := by decide +kernel
theorem dX12_begin_41 : decode cX12_begin 41 = .ok (.goto (-16), 3) := by decide +kernel
theorem dX12_begin_44 : decode cX12_begin 44 = .ok (.return_, 1) := by decide +kernel
theorem dX12_places_0 : decode cX12_places 0 = .ok (.aload_n 0, 1) := by decide +kernel
theorem dX12_places_1 : decode cX12_places 1 = .ok (.getfield 7, 3) := by decide +kernel
theorem dX12_places_4 : decode cX12_places 4 = .ok (.iconst 0, 1) := by decide +kernel
theorem dX12_places_5 : decode cX12_places 5 = .ok (.iaload, 1) := by decide +kernel
theorem dX12_places_6 : decode cX12_places 6 = .ok (.ireturn, 1) := by decide +kernel
theorem dX12_moons_0 : decode cX12_moons 0 = .ok (.aload_n 0, 1) := by decide +kernel
theorem dX12_moons_1 : decode cX12_moons 1 = .ok (.getfield 7, 3) := by decide +kernel
theorem dX12_moons_4 : decode cX12_moons 4 = .ok (.bipush 126, 2) := by decide +kernel
theorem dX12_moons_6 : decode cX12_moons 6 = .ok (.iaload, 1) := by decide +kernel
theorem dX12_moons_7 : decode cX12_moons 7 = .ok (.ireturn, 1) := by decide +kernel
theorem dX12_isLane_0 : decode cX12_isLane 0 = .ok (.iload_n 0, 1) := by decide +kernel
theorem dX12_isLane_1 : decode cX12_isLane 1 = .ok (.i2l, 1) := by decide +kernel
theorem dX12_isLane_2 : decode cX12_isLane 2 = .ok (.lconst 0, 1) := by decide +kernel
theorem dX12_isLane_3 : decode cX12_isLane 3 = .ok (.ldc2_w 58, 3) := by decide +kernel
theorem dX12_isLane_6 : decode cX12_isLane 6 = .ok (.invokestatic 60, 3) := by decide +kernel
theorem dX12_isLane_9 : decode cX12_isLane 9 = .ok (.ireturn, 1) := by decide +kernel
theorem dX12_isPlace_0 : decode cX12_isPlace 0 = .ok (.iload_n 1, 1) := by decide +kernel
theorem dX12_isPlace_1 : decode cX12_isPlace 1 = .ok (.i2l, 1) := by decide +kernel
theorem dX12_isPlace_2 : decode cX12_isPlace 2 = .ok (.lconst 0, 1) := by decide +kernel
theorem dX12_isPlace_3 : decode cX12_isPlace 3 = .ok (.aload_n 0, 1) := by decide +kernel
theorem dX12_isPlace_4 : decode cX12_isPlace 4 = .ok (.invokevirtual 64, 3) := by decide +kernel
theorem dX12_isPlace_7 : decode cX12_isPlace 7 = .ok (.iconst 1, 1) := by decide +kernel
theorem dX12_isPlace_8 : decode cX12_isPlace 8 = .ok (.isub, 1) := by decide +kernel
theorem dX12_isPlace_9 : decode cX12_isPlace 9 = .ok (.i2l, 1) := by decide +kernel
theorem dX12_isPlace_10 : decode cX12_isPlace 10 = .ok (.invokestatic 60, 3) := by decide +kernel
theorem dX12_isPlace_13 : decode cX12_isPlace 13 = .ok (.ireturn, 1) := by decide +kernel
theorem dX12_isMoon_0 : decode cX12_isMoon 0 = .ok (.iload_n 1, 1) := by decide +kernel
theorem dX12_isMoon_1 : decode cX12_isMoon 1 = .ok (.i2l, 1) := by decide +kernel
theorem dX12_isMoon_2 : decode cX12_isMoon 2 = .ok (.lconst 0, 1) := by decide +kernel
theorem dX12_isMoon_3 : decode cX12_isMoon 3 = .ok (.aload_n 0, 1) := by decide +kernel
theorem dX12_isMoon_4 : decode cX12_isMoon 4 = .ok (.invokevirtual 68, 3) := by decide +kernel
theorem dX12_isMoon_7 : decode cX12_isMoon 7 = .ok (.iconst 1, 1) := by decide +kernel
theorem dX12_isMoon_8 : decode cX12_isMoon 8 = .ok (.isub, 1) := by decide +kernel
theorem dX12_isMoon_9 : decode cX12_isMoon 9 = .ok (.i2l, 1) := by decide +kernel
theorem dX12_isMoon_10 : decode cX12_isMoon 10 = .ok (.invokestatic 60, 3) := by decide +kernel
theorem dX12_isMoon_13 : decode cX12_isMoon 13 = .ok (.ireturn, 1) := by decide +kernel
theorem dX12_of_0 : decode cX12_of 0 = .ok (.aload_n 0, 1) := by decide +kernel
theorem dX12_of_1 : decode cX12_of 1 = .ok (.getfield 7, 3) := by decide +kernel
theorem dX12_of_4 : decode cX12_of 4 = .ok (.bipush 127, 2) := by decide +kernel
theorem dX12_of_6 : decode cX12_of 6 = .ok (.iconst 4, 1) := by decide +kernel
theorem dX12_of_7 : decode cX12_of 7 = .ok (.iload_n 1, 1) := by decide +kernel
theorem dX12_of_8 : decode cX12_of 8 = .ok (.imul, 1) := by decide +kernel
theorem dX12_of_9 : decode cX12_of 9 = .ok (.iadd, 1) := by decide +kernel
theorem dX12_of_10 : decode cX12_of 10 = .ok (.iload_n 2, 1) := by decide +kernel
theorem dX12_of_11 : decode cX12_of 11 = .ok (.iadd, 1) := by decide +kernel
theorem dX12_of_12 : decode cX12_of 12 = .ok (.iaload, 1) := by decide +kernel
theorem dX12_of_13 : decode cX12_of 13 = .ok (.ireturn, 1) := by decide +kernel
theorem dX12_ring_0 : decode cX12_ring 0 = .ok (.iload_n 1, 1) := by decide +kernel
theorem dX12_ring_1 : decode cX12_ring 1 = .ok (.i2l, 1) := by decide +kernel
theorem dX12_ring_2 : decode cX12_ring 2 = .ok (.ldc2_w 58, 3) := by decide +kernel
theorem dX12_ring_5 : decode cX12_ring 5 = .ok (.ldc2_w 71, 3) := by decide +kernel
theorem dX12_ring_8 : decode cX12_ring 8 = .ok (.invokestatic 60, 3) := by decide +kernel
theorem dX12_ring_11 : decode cX12_ring 11 = .ok (.ifCond .ne 10, 3) := by decide +kernel
theorem dX12_ring_14 : decode cX12_ring 14 = .ok (.aload_n 0, 1) := by decide +kernel
theorem dX12_ring_15 : decode cX12_ring 15 = .ok (.bipush (-2), 2) := by decide +kernel
theorem dX12_ring_17 : decode cX12_ring 17 = .ok (.invokevirtual 73, 3) := by decide +kernel
theorem dX12_ring_20 : decode cX12_ring 20 = .ok (.ireturn, 1) := by decide +kernel
theorem dX12_ring_21 : decode cX12_ring 21 = .ok (.aload_n 0, 1) := by decide +kernel
theorem dX12_ring_22 : decode cX12_ring 22 = .ok (.invokevirtual 64, 3) := by decide +kernel
theorem dX12_ring_25 : decode cX12_ring 25 = .ok (.istore_n 2, 1) := by decide +kernel
theorem dX12_ring_26 : decode cX12_ring 26 = .ok (.aload_n 0, 1) := by decide +kernel
theorem dX12_ring_27 : decode cX12_ring 27 = .ok (.getfield 7, 3) := by decide +kernel
theorem dX12_ring_30 : decode cX12_ring 30 = .ok (.iload_n 1, 1) := by decide +kernel
theorem dX12_ring_31 : decode cX12_ring 31 = .ok (.invokestatic 54, 3) := by decide +kernel
theorem dX12_ring_34 : decode cX12_ring 34 = .ok (.iload_n 2, 1) := by decide +kernel
theorem dX12_ring_35 : decode cX12_ring 35 = .ok (.ireturn, 1) := by decide +kernel
theorem dX12_step_0 : decode cX12_step 0 = .ok (.iload_n 1, 1) := by decide +kernel
theorem dX12_step_1 : decode cX12_step 1 = .ok (.invokestatic 77, 3) := by decide +kernel
theorem dX12_step_4 : decode cX12_step 4 = .ok (.ifCond .eq 15, 3) := by decide +kernel
theorem dX12_step_7 : decode cX12_step 7 = .ok (.iload_n 2, 1) := by decide +kernel
theorem dX12_step_8 : decode cX12_step 8 = .ok (.i2l, 1) := by decide +kernel
theorem dX12_step_9 : decode cX12_step 9 = .ok (.lconst 0, 1) := by decide +kernel
theorem dX12_step_10 : decode cX12_step 10 = .ok (.ldc2_w 81, 3) := by decide +kernel
theorem dX12_step_13 : decode cX12_step 13 = .ok (.invokestatic 60, 3) := by decide +kernel
theorem dX12_step_16 : decode cX12_step 16 = .ok (.ifCond .ne 10, 3) := by decide +kernel
theorem dX12_step_19 : decode cX12_step 19 = .ok (.aload_n 0, 1) := by decide +kernel
theorem dX12_step_20 : decode cX12_step 20 = .ok (.bipush (-2), 2) := by decide +kernel
theorem dX12_step_22 : decode cX12_step 22 = .ok (.invokevirtual 73, 3) := by decide +kernel
theorem dX12_step_25 : decode cX12_step 25 = .ok (.ireturn, 1) := by decide +kernel
theorem dX12_step_26 : decode cX12_step 26 = .ok (.aload_n 0, 1) := by decide +kernel
theorem dX12_step_27 : decode cX12_step 27 = .ok (.getfield 7, 3) := by decide +kernel
theorem dX12_step_30 : decode cX12_step 30 = .ok (.iconst 1, 1) := by decide +kernel
theorem dX12_step_31 : decode cX12_step 31 = .ok (.iload_n 1, 1) := by decide +kernel
theorem dX12_step_32 : decode cX12_step 32 = .ok (.iadd, 1) := by decide +kernel
theorem dX12_step_33 : decode cX12_step 33 = .ok (.iaload, 1) := by decide +kernel
theorem dX12_step_34 : decode cX12_step 34 = .ok (.istore_n 3, 1) := by decide +kernel
theorem dX12_step_35 : decode cX12_step 35 = .ok (.aload_n 0, 1) := by decide +kernel
theorem dX12_step_36 : decode cX12_step 36 = .ok (.getfield 7, 3) := by decide +kernel
theorem dX12_step_39 : decode cX12_step 39 = .ok (.iconst 1, 1) := by decide +kernel
theorem dX12_step_40 : decode cX12_step 40 = .ok (.iload_n 1, 1) := by decide +kernel
theorem dX12_step_41 : decode cX12_step 41 = .ok (.iadd, 1) := by decide +kernel
theorem dX12_step_42 : decode cX12_step 42 = .ok (.iload_n 2, 1) := by decide +kernel
theorem dX12_step_43 : decode cX12_step 43 = .ok (.iastore, 1) := by decide +kernel
theorem dX12_step_44 : decode cX12_step 44 = .ok (.iload_n 3, 1) := by decide +kernel
theorem dX12_step_45 : decode cX12_step 45 = .ok (.ireturn, 1) := by decide +kernel
theorem dX12_lumps_0 : decode cX12_lumps 0 = .ok (.iload_n 1, 1) := by decide +kernel
theorem dX12_lumps_1 : decode cX12_lumps 1 = .ok (.invokestatic 77, 3) := by decide +kernel
theorem dX12_lumps_4 : decode cX12_lumps 4 = .ok (.ifCond .eq 23, 3) := by decide +kernel
theorem dX12_lumps_7 : decode cX12_lumps 7 = .ok (.aload_n 0, 1) := by decide +kernel
theorem dX12_lumps_8 : decode cX12_lumps 8 = .ok (.iload_n 2, 1) := by decide +kernel
theorem dX12_lumps_9 : decode cX12_lumps 9 = .ok (.invokevirtual 83, 3) := by decide +kernel
theorem dX12_lumps_12 : decode cX12_lumps 12 = .ok (.ifCond .eq 15, 3) := by decide +kernel
theorem dX12_lumps_15 : decode cX12_lumps 15 = .ok (.iload_n 3, 1) := by decide +kernel
theorem dX12_lumps_16 : decode cX12_lumps 16 = .ok (.i2l, 1) := by decide +kernel
theorem dX12_lumps_17 : decode cX12_lumps 17 = .ok (.lconst 0, 1) := by decide +kernel
theorem dX12_lumps_18 : decode cX12_lumps 18 = .ok (.ldc2_w 86, 3) := by decide +kernel
theorem dX12_lumps_21 : decode cX12_lumps 21 = .ok (.invokestatic 60, 3) := by decide +kernel
theorem dX12_lumps_24 : decode cX12_lumps 24 = .ok (.ifCond .ne 10, 3) := by decide +kernel
theorem dX12_lumps_27 : decode cX12_lumps 27 = .ok (.aload_n 0, 1) := by decide +kernel
theorem dX12_lumps_28 : decode cX12_lumps 28 = .ok (.bipush (-2), 2) := by decide +kernel
theorem dX12_lumps_30 : decode cX12_lumps 30 = .ok (.invokevirtual 73, 3) := by decide +kernel
theorem dX12_lumps_33 : decode cX12_lumps 33 = .ok (.ireturn, 1) := by decide +kernel
theorem dX12_lumps_34 : decode cX12_lumps 34 = .ok (.aload_n 0, 1) := by decide +kernel
theorem dX12_lumps_35 : decode cX12_lumps 35 = .ok (.getfield 7, 3) := by decide +kernel
theorem dX12_lumps_38 : decode cX12_lumps 38 = .ok (.bipush 6, 2) := by decide +kernel
theorem dX12_lumps_40 : decode cX12_lumps 40 = .ok (.bipush 24, 2) := by decide +kernel
theorem dX12_lumps_42 : decode cX12_lumps 42 = .ok (.iload_n 1, 1) := by decide +kernel
theorem dX12_lumps_43 : decode cX12_lumps 43 = .ok (.imul, 1) := by decide +kernel
theorem dX12_lumps_44 : decode cX12_lumps 44 = .ok (.iadd, 1) := by decide +kernel
theorem dX12_lumps_45 : decode cX12_lumps 45 = .ok (.iload_n 2, 1) := by decide +kernel
theorem dX12_lumps_46 : decode cX12_lumps 46 = .ok (.iadd, 1) := by decide +kernel
theorem dX12_lumps_47 : decode cX12_lumps 47 = .ok (.iaload, 1) := by decide +kernel
theorem dX12_lumps_48 : decode cX12_lumps 48 = .ok (.istore 4, 2) := by decide +kernel
theorem dX12_lumps_50 : decode cX12_lumps 50 = .ok (.aload_n 0, 1) := by decide +kernel
theorem dX12_lumps_51 : decode cX12_lumps 51 = .ok (.getfield 7, 3) := by decide +kernel
theorem dX12_lumps_54 : decode cX12_lumps 54 = .ok (.bipush 6, 2) := by decide +kernel
theorem dX12_lumps_56 : decode cX12_lumps 56 = .ok (.bipush 24, 2) := by decide +kernel
theorem dX12_lumps_58 : decode cX12_lumps 58 = .ok (.iload_n 1, 1) := by decide +kernel
theorem dX12_lumps_59 : decode cX12_lumps 59 = .ok (.imul, 1) := by decide +kernel
theorem dX12_lumps_60 : decode cX12_lumps 60 = .ok (.iadd, 1) := by decide +kernel
theorem dX12_lumps_61 : decode cX12_lumps 61 = .ok (.iload_n 2, 1) := by decide +kernel
theorem dX12_lumps_62 : decode cX12_lumps 62 = .ok (.iadd, 1) := by decide +kernel
theorem dX12_lumps_63 : decode cX12_lumps 63 = .ok (.iload_n 3, 1) := by decide +kernel
theorem dX12_lumps_64 : decode cX12_lumps 64 = .ok (.iastore, 1) := by decide +kernel
theorem dX12_lumps_65 : decode cX12_lumps 65 = .ok (.iload 4, 2) := by decide +kernel
theorem dX12_lumps_67 : decode cX12_lumps 67 = .ok (.ireturn, 1) := by decide +kernel
theorem dX12_layMoon_0 : decode cX12_layMoon 0 = .ok (.bipush 127, 2) := by decide +kernel
theorem dX12_layMoon_2 : decode cX12_layMoon 2 = .ok (.iconst 4, 1) := by decide +kernel
theorem dX12_layMoon_3 : decode cX12_layMoon 3 = .ok (.aload_n 0, 1) := by decide +kernel
theorem dX12_layMoon_4 : decode cX12_layMoon 4 = .ok (.bipush 126, 2) := by decide +kernel
theorem dX12_layMoon_6 : decode cX12_layMoon 6 = .ok (.iaload, 1) := by decide +kernel
theorem dX12_layMoon_7 : decode cX12_layMoon 7 = .ok (.imul, 1) := by decide +kernel
theorem dX12_layMoon_8 : decode cX12_layMoon 8 = .ok (.iadd, 1) := by decide +kernel
theorem dX12_layMoon_9 : decode cX12_layMoon 9 = .ok (.istore 5, 2) := by decide +kernel
theorem dX12_layMoon_11 : decode cX12_layMoon 11 = .ok (.aload_n 0, 1) := by decide +kernel
theorem dX12_layMoon_12 : decode cX12_layMoon 12 = .ok (.iload 5, 2) := by decide +kernel
theorem dX12_layMoon_14 : decode cX12_layMoon 14 = .ok (.iconst 0, 1) := by decide +kernel
theorem dX12_layMoon_15 : decode cX12_layMoon 15 = .ok (.iadd, 1) := by decide +kernel
theorem dX12_layMoon_16 : decode cX12_layMoon 16 = .ok (.iload_n 1, 1) := by decide +kernel
theorem dX12_layMoon_17 : decode cX12_layMoon 17 = .ok (.iastore, 1) := by decide +kernel
theorem dX12_layMoon_18 : decode cX12_layMoon 18 = .ok (.aload_n 0, 1) := by decide +kernel
theorem dX12_layMoon_19 : decode cX12_layMoon 19 = .ok (.iload 5, 2) := by decide +kernel
theorem dX12_layMoon_21 : decode cX12_layMoon 21 = .ok (.iconst 1, 1) := by decide +kernel
theorem dX12_layMoon_22 : decode cX12_layMoon 22 = .ok (.iadd, 1) := by decide +kernel
theorem dX12_layMoon_23 : decode cX12_layMoon 23 = .ok (.iload_n 2, 1) := by decide +kernel
theorem dX12_layMoon_24 : decode cX12_layMoon 24 = .ok (.iastore, 1) := by decide +kernel
theorem dX12_layMoon_25 : decode cX12_layMoon 25 = .ok (.aload_n 0, 1) := by decide +kernel
theorem dX12_layMoon_26 : decode cX12_layMoon 26 = .ok (.iload 5, 2) := by decide +kernel
theorem dX12_layMoon_28 : decode cX12_layMoon 28 = .ok (.iconst 2, 1) := by decide +kernel
theorem dX12_layMoon_29 : decode cX12_layMoon 29 = .ok (.iadd, 1) := by decide +kernel
theorem dX12_layMoon_30 : decode cX12_layMoon 30 = .ok (.iload_n 3, 1) := by decide +kernel
theorem dX12_layMoon_31 : decode cX12_layMoon 31 = .ok (.iastore, 1) := by decide +kernel
theorem dX12_layMoon_32 : decode cX12_layMoon 32 = .ok (.aload_n 0, 1) := by decide +kernel
theorem dX12_layMoon_33 : decode cX12_layMoon 33 = .ok (.iload 5, 2) := by decide +kernel
theorem dX12_layMoon_35 : decode cX12_layMoon 35 = .ok (.iconst 3, 1) := by decide +kernel
theorem dX12_layMoon_36 : decode cX12_layMoon 36 = .ok (.iadd, 1) := by decide +kernel
theorem dX12_layMoon_37 : decode cX12_layMoon 37 = .ok (.iload 4, 2) := by decide +kernel
theorem dX12_layMoon_39 : decode cX12_layMoon 39 = .ok (.iastore, 1) := by decide +kernel
theorem dX12_layMoon_40 : decode cX12_layMoon 40 = .ok (.aload_n 0, 1) := by decide +kernel
theorem dX12_layMoon_41 : decode cX12_layMoon 41 = .ok (.bipush 126, 2) := by decide +kernel
theorem dX12_layMoon_43 : decode cX12_layMoon 43 = .ok (.dup2, 1) := by decide +kernel
theorem dX12_layMoon_44 : decode cX12_layMoon 44 = .ok (.iaload, 1) := by decide +kernel
theorem dX12_layMoon_45 : decode cX12_layMoon 45 = .ok (.iconst 1, 1) := by decide +kernel
theorem dX12_layMoon_46 : decode cX12_layMoon 46 = .ok (.iadd, 1) := by decide +kernel
theorem dX12_layMoon_47 : decode cX12_layMoon 47 = .ok (.iastore, 1) := by decide +kernel
theorem dX12_layMoon_48 : decode cX12_layMoon 48 = .ok (.return_, 1) := by decide +kernel
theorem dX12_moon_0 : decode cX12_moon 0 = .ok (.iload_n 1, 1) := by decide +kernel
theorem dX12_moon_1 : decode cX12_moon 1 = .ok (.i2l, 1) := by decide +kernel
theorem dX12_moon_2 : decode cX12_moon 2 = .ok (.lconst 0, 1) := by decide +kernel
theorem dX12_moon_3 : decode cX12_moon 3 = .ok (.ldc2_w 58, 3) := by decide +kernel
theorem dX12_moon_6 : decode cX12_moon 6 = .ok (.invokestatic 60, 3) := by decide +kernel
theorem dX12_moon_9 : decode cX12_moon 9 = .ok (.ifCond .eq 36, 3) := by decide +kernel
theorem dX12_moon_12 : decode cX12_moon 12 = .ok (.iload_n 2, 1) := by decide +kernel
theorem dX12_moon_13 : decode cX12_moon 13 = .ok (.i2l, 1) := by decide +kernel
theorem dX12_moon_14 : decode cX12_moon 14 = .ok (.lconst 0, 1) := by decide +kernel
theorem dX12_moon_15 : decode cX12_moon 15 = .ok (.ldc2_w 88, 3) := by decide +kernel
theorem dX12_moon_18 : decode cX12_moon 18 = .ok (.invokestatic 60, 3) := by decide +kernel
theorem dX12_moon_21 : decode cX12_moon 21 = .ok (.ifCond .eq 24, 3) := by decide +kernel
theorem dX12_moon_24 : decode cX12_moon 24 = .ok (.aload_n 0, 1) := by decide +kernel
theorem dX12_moon_25 : decode cX12_moon 25 = .ok (.iload_n 3, 1) := by decide +kernel
theorem dX12_moon_26 : decode cX12_moon 26 = .ok (.invokevirtual 83, 3) := by decide +kernel
theorem dX12_moon_29 : decode cX12_moon 29 = .ok (.ifCond .eq 16, 3) := by decide +kernel
theorem dX12_moon_32 : decode cX12_moon 32 = .ok (.iload 4, 2) := by decide +kernel
theorem dX12_moon_34 : decode cX12_moon 34 = .ok (.i2l, 1) := by decide +kernel
theorem dX12_moon_35 : decode cX12_moon 35 = .ok (.lconst 0, 1) := by decide +kernel
theorem dX12_moon_36 : decode cX12_moon 36 = .ok (.ldc2_w 81, 3) := by decide +kernel
theorem dX12_moon_39 : decode cX12_moon 39 = .ok (.invokestatic 60, 3) := by decide +kernel
theorem dX12_moon_42 : decode cX12_moon 42 = .ok (.ifCond .ne 10, 3) := by decide +kernel
theorem dX12_moon_45 : decode cX12_moon 45 = .ok (.aload_n 0, 1) := by decide +kernel
theorem dX12_moon_46 : decode cX12_moon 46 = .ok (.bipush (-2), 2) := by decide +kernel
theorem dX12_moon_48 : decode cX12_moon 48 = .ok (.invokevirtual 73, 3) := by decide +kernel
theorem dX12_moon_51 : decode cX12_moon 51 = .ok (.ireturn, 1) := by decide +kernel
theorem dX12_moon_52 : decode cX12_moon 52 = .ok (.aload_n 0, 1) := by decide +kernel
theorem dX12_moon_53 : decode cX12_moon 53 = .ok (.invokevirtual 68, 3) := by decide +kernel
theorem dX12_moon_56 : decode cX12_moon 56 = .ok (.iconst 4, 1) := by decide +kernel
theorem dX12_moon_57 : decode cX12_moon 57 = .ok (.if_icmp .ne 8, 3) := by decide +kernel
theorem dX12_moon_60 : decode cX12_moon 60 = .ok (.aload_n 0, 1) := by decide +kernel
theorem dX12_moon_61 : decode cX12_moon 61 = .ok (.invokevirtual 90, 3) := by decide +kernel
theorem dX12_moon_64 : decode cX12_moon 64 = .ok (.ireturn, 1) := by decide +kernel
theorem dX12_moon_65 : decode cX12_moon 65 = .ok (.aload_n 0, 1) := by decide +kernel
theorem dX12_moon_66 : decode cX12_moon 66 = .ok (.getfield 7, 3) := by decide +kernel
theorem dX12_moon_69 : decode cX12_moon 69 = .ok (.iload_n 1, 1) := by decide +kernel
theorem dX12_moon_70 : decode cX12_moon 70 = .ok (.iload_n 2, 1) := by decide +kernel
theorem dX12_moon_71 : decode cX12_moon 71 = .ok (.iload_n 3, 1) := by decide +kernel
theorem dX12_moon_72 : decode cX12_moon 72 = .ok (.iload 4, 2) := by decide +kernel
theorem dX12_moon_74 : decode cX12_moon 74 = .ok (.invokestatic 93, 3) := by decide +kernel
theorem dX12_moon_77 : decode cX12_moon 77 = .ok (.aload_n 0, 1) := by decide +kernel
theorem dX12_moon_78 : decode cX12_moon 78 = .ok (.invokevirtual 68, 3) := by decide +kernel
theorem dX12_moon_81 : decode cX12_moon 81 = .ok (.iconst 1, 1) := by decide +kernel
theorem dX12_moon_82 : decode cX12_moon 82 = .ok (.isub, 1) := by decide +kernel
theorem dX12_moon_83 : decode cX12_moon 83 = .ok (.ireturn, 1) := by decide +kernel
theorem dX12_takeNow_0 : decode cX12_takeNow 0 = .ok (.iconst 0, 1) := by decide +kernel
theorem dX12_takeNow_1 : decode cX12_takeNow 1 = .ok (.istore_n 2, 1) := by decide +kernel
theorem dX12_takeNow_2 : decode cX12_takeNow 2 = .ok (.iload_n 2, 1) := by decide +kernel
theorem dX12_takeNow_3 : decode cX12_takeNow 3 = .ok (.bipush 120, 2) := by decide +kernel
theorem dX12_takeNow_5 : decode cX12_takeNow 5 = .ok (.if_icmp .ge 24, 3) := by decide +kernel
theorem dX12_takeNow_8 : decode cX12_takeNow 8 = .ok (.aload_n 0, 1) := by decide +kernel
theorem dX12_takeNow_9 : decode cX12_takeNow 9 = .ok (.getfield 27, 3) := by decide +kernel
theorem dX12_takeNow_12 : decode cX12_takeNow 12 = .ok (.iload_n 2, 1) := by decide +kernel
theorem dX12_takeNow_13 : decode cX12_takeNow 13 = .ok (.aload_n 0, 1) := by decide +kernel
theorem dX12_takeNow_14 : decode cX12_takeNow 14 = .ok (.getfield 7, 3) := by decide +kernel
theorem dX12_takeNow_17 : decode cX12_takeNow 17 = .ok (.bipush 6, 2) := by decide +kernel
theorem dX12_takeNow_19 : decode cX12_takeNow 19 = .ok (.iload_n 2, 1) := by decide +kernel
theorem dX12_takeNow_20 : decode cX12_takeNow 20 = .ok (.iadd, 1) := by decide +kernel
theorem dX12_takeNow_21 : decode cX12_takeNow 21 = .ok (.iaload, 1) := by decide +kernel
theorem dX12_takeNow_22 : decode cX12_takeNow 22 = .ok (.iastore, 1) := by decide +kernel
theorem dX12_takeNow_23 : decode cX12_takeNow 23 = .ok (.iinc 2 1, 3) := by decide +kernel
theorem dX12_takeNow_26 : decode cX12_takeNow 26 = .ok (.goto (-24), 3) := by decide +kernel
theorem dX12_takeNow_29 : decode cX12_takeNow 29 = .ok (.iconst 0, 1) := by decide +kernel
theorem dX12_takeNow_30 : decode cX12_takeNow 30 = .ok (.istore_n 2, 1) := by decide +kernel
theorem dX12_takeNow_31 : decode cX12_takeNow 31 = .ok (.iload_n 2, 1) := by decide +kernel
theorem dX12_takeNow_32 : decode cX12_takeNow 32 = .ok (.aload_n 0, 1) := by decide +kernel
theorem dX12_takeNow_33 : decode cX12_takeNow 33 = .ok (.invokevirtual 68, 3) := by decide +kernel
theorem dX12_takeNow_36 : decode cX12_takeNow 36 = .ok (.if_icmp .ge 21, 3) := by decide +kernel
theorem dX12_takeNow_39 : decode cX12_takeNow 39 = .ok (.aload_n 0, 1) := by decide +kernel
theorem dX12_takeNow_40 : decode cX12_takeNow 40 = .ok (.getfield 33, 3) := by decide +kernel
theorem dX12_takeNow_43 : decode cX12_takeNow 43 = .ok (.iload_n 2, 1) := by decide +kernel
theorem dX12_takeNow_44 : decode cX12_takeNow 44 = .ok (.aload_n 0, 1) := by decide +kernel
theorem dX12_takeNow_45 : decode cX12_takeNow 45 = .ok (.iload_n 2, 1) := by decide +kernel
theorem dX12_takeNow_46 : decode cX12_takeNow 46 = .ok (.iconst 2, 1) := by decide +kernel
theorem dX12_takeNow_47 : decode cX12_takeNow 47 = .ok (.invokevirtual 97, 3) := by decide +kernel
theorem dX12_takeNow_50 : decode cX12_takeNow 50 = .ok (.iastore, 1) := by decide +kernel
theorem dX12_takeNow_51 : decode cX12_takeNow 51 = .ok (.iinc 2 1, 3) := by decide +kernel
theorem dX12_takeNow_54 : decode cX12_takeNow 54 = .ok (.goto (-23), 3) := by decide +kernel
theorem dX12_takeNow_57 : decode cX12_takeNow 57 = .ok (.aload_n 0, 1) := by decide +kernel
theorem dX12_takeNow_58 : decode cX12_takeNow 58 = .ok (.aload_n 0, 1) := by decide +kernel
theorem dX12_takeNow_59 : decode cX12_takeNow 59 = .ok (.getfield 7, 3) := by decide +kernel
theorem dX12_takeNow_62 : decode cX12_takeNow 62 = .ok (.sipush 148, 3) := by decide +kernel
theorem dX12_takeNow_65 : decode cX12_takeNow 65 = .ok (.iaload, 1) := by decide +kernel
theorem dX12_takeNow_66 : decode cX12_takeNow 66 = .ok (.putfield 101, 3) := by decide +kernel
theorem dX12_takeNow_69 : decode cX12_takeNow 69 = .ok (.aload_n 0, 1) := by decide +kernel
theorem dX12_takeNow_70 : decode cX12_takeNow 70 = .ok (.iload_n 1, 1) := by decide +kernel
theorem dX12_takeNow_71 : decode cX12_takeNow 71 = .ok (.putfield 105, 3) := by decide +kernel
theorem dX12_takeNow_74 : decode cX12_takeNow 74 = .ok (.return_, 1) := by decide +kernel
theorem dX12_all_0 : decode cX12_all 0 = .ok (.iconst 1, 1) := by decide +kernel
theorem dX12_all_1 : decode cX12_all 1 = .ok (.aload_n 0, 1) := by decide +kernel
theorem dX12_all_2 : decode cX12_all 2 = .ok (.invokevirtual 68, 3) := by decide +kernel
theorem dX12_all_5 : decode cX12_all 5 = .ok (.ishl, 1) := by decide +kernel
theorem dX12_all_6 : decode cX12_all 6 = .ok (.iconst 1, 1) := by decide +kernel
theorem dX12_all_7 : decode cX12_all 7 = .ok (.isub, 1) := by decide +kernel
theorem dX12_all_8 : decode cX12_all 8 = .ok (.ireturn, 1) := by decide +kernel
theorem dX12_isAwake_0 : decode cX12_isAwake 0 = .ok (.aload_n 0, 1) := by decide +kernel
theorem dX12_isAwake_1 : decode cX12_isAwake 1 = .ok (.getfield 105, 3) := by decide +kernel
theorem dX12_isAwake_4 : decode cX12_isAwake 4 = .ok (.iload_n 1, 1) := by decide +kernel
theorem dX12_isAwake_5 : decode cX12_isAwake 5 = .ok (.ishr, 1) := by decide +kernel
theorem dX12_isAwake_6 : decode cX12_isAwake 6 = .ok (.iconst 1, 1) := by decide +kernel
theorem dX12_isAwake_7 : decode cX12_isAwake 7 = .ok (.iand, 1) := by decide +kernel
theorem dX12_isAwake_8 : decode cX12_isAwake 8 = .ok (.iconst 1, 1) := by decide +kernel
theorem dX12_isAwake_9 : decode cX12_isAwake 9 = .ok (.if_icmp .ne 26, 3) := by decide +kernel
theorem dX12_isAwake_12 : decode cX12_isAwake 12 = .ok (.aload_n 0, 1) := by decide +kernel
theorem dX12_isAwake_13 : decode cX12_isAwake 13 = .ok (.iload_n 1, 1) := by decide +kernel
theorem dX12_isAwake_14 : decode cX12_isAwake 14 = .ok (.iconst 0, 1) := by decide +kernel
theorem dX12_isAwake_15 : decode cX12_isAwake 15 = .ok (.invokevirtual 97, 3) := by decide +kernel
theorem dX12_isAwake_18 : decode cX12_isAwake 18 = .ok (.iconst 4, 1) := by decide +kernel
theorem dX12_isAwake_19 : decode cX12_isAwake 19 = .ok (.if_icmp .ne 12, 3) := by decide +kernel
theorem dX12_isAwake_22 : decode cX12_isAwake 22 = .ok (.aload_n 0, 1) := by decide +kernel
theorem dX12_isAwake_23 : decode cX12_isAwake 23 = .ok (.getfield 101, 3) := by decide +kernel
theorem dX12_isAwake_26 : decode cX12_isAwake 26 = .ok (.iconst 3, 1) := by decide +kernel
theorem dX12_isAwake_27 : decode cX12_isAwake 27 = .ok (.irem, 1) := by decide +kernel
theorem dX12_isAwake_28 : decode cX12_isAwake 28 = .ok (.ifCond .eq 7, 3) := by decide +kernel
theorem dX12_isAwake_31 : decode cX12_isAwake 31 = .ok (.iconst 1, 1) := by decide +kernel
theorem dX12_isAwake_32 : decode cX12_isAwake 32 = .ok (.goto 4, 3) := by decide +kernel
theorem dX12_isAwake_35 : decode cX12_isAwake 35 = .ok (.iconst 0, 1) := by decide +kernel
theorem dX12_isAwake_36 : decode cX12_isAwake 36 = .ok (.ireturn, 1) := by decide +kernel
theorem dX12_isBy_0 : decode cX12_isBy 0 = .ok (.aload_n 0, 1) := by decide +kernel
theorem dX12_isBy_1 : decode cX12_isBy 1 = .ok (.iload_n 1, 1) := by decide +kernel
theorem dX12_isBy_2 : decode cX12_isBy 2 = .ok (.iconst 0, 1) := by decide +kernel
theorem dX12_isBy_3 : decode cX12_isBy 3 = .ok (.invokevirtual 97, 3) := by decide +kernel
theorem dX12_isBy_6 : decode cX12_isBy 6 = .ok (.iconst 1, 1) := by decide +kernel
theorem dX12_isBy_7 : decode cX12_isBy 7 = .ok (.if_icmp .eq 13, 3) := by decide +kernel
theorem dX12_isBy_10 : decode cX12_isBy 10 = .ok (.aload_n 0, 1) := by decide +kernel
theorem dX12_isBy_11 : decode cX12_isBy 11 = .ok (.iload_n 1, 1) := by decide +kernel
theorem dX12_isBy_12 : decode cX12_isBy 12 = .ok (.iconst 0, 1) := by decide +kernel
theorem dX12_isBy_13 : decode cX12_isBy 13 = .ok (.invokevirtual 97, 3) := by decide +kernel
theorem dX12_isBy_16 : decode cX12_isBy 16 = .ok (.iconst 3, 1) := by decide +kernel
theorem dX12_isBy_17 : decode cX12_isBy 17 = .ok (.if_icmp .ne 7, 3) := by decide +kernel
theorem dX12_isBy_20 : decode cX12_isBy 20 = .ok (.iconst 1, 1) := by decide +kernel
theorem dX12_isBy_21 : decode cX12_isBy 21 = .ok (.goto 4, 3) := by decide +kernel
theorem dX12_isBy_24 : decode cX12_isBy 24 = .ok (.iconst 0, 1) := by decide +kernel
theorem dX12_isBy_25 : decode cX12_isBy 25 = .ok (.istore_n 3, 1) := by decide +kernel
theorem dX12_isBy_26 : decode cX12_isBy 26 = .ok (.iload_n 2, 1) := by decide +kernel
theorem dX12_isBy_27 : decode cX12_isBy 27 = .ok (.aload_n 0, 1) := by decide +kernel
theorem dX12_isBy_28 : decode cX12_isBy 28 = .ok (.getfield 33, 3) := by decide +kernel
theorem dX12_isBy_31 : decode cX12_isBy 31 = .ok (.iload_n 1, 1) := by decide +kernel
theorem dX12_isBy_32 : decode cX12_isBy 32 = .ok (.iaload, 1) := by decide +kernel
theorem dX12_isBy_33 : decode cX12_isBy 33 = .ok (.isub, 1) := by decide +kernel
theorem dX12_isBy_34 : decode cX12_isBy 34 = .ok (.aload_n 0, 1) := by decide +kernel
theorem dX12_isBy_35 : decode cX12_isBy 35 = .ok (.invokevirtual 64, 3) := by decide +kernel
theorem dX12_isBy_38 : decode cX12_isBy 38 = .ok (.iadd, 1) := by decide +kernel
theorem dX12_isBy_39 : decode cX12_isBy 39 = .ok (.aload_n 0, 1) := by decide +kernel
theorem dX12_isBy_40 : decode cX12_isBy 40 = .ok (.invokevirtual 64, 3) := by decide +kernel
theorem dX12_isBy_43 : decode cX12_isBy 43 = .ok (.irem, 1) := by decide +kernel
theorem dX12_isBy_44 : decode cX12_isBy 44 = .ok (.istore 4, 2) := by decide +kernel
theorem dX12_isBy_46 : decode cX12_isBy 46 = .ok (.iload 4, 2) := by decide +kernel
theorem dX12_isBy_48 : decode cX12_isBy 48 = .ok (.ifCond .eq 24, 3) := by decide +kernel
theorem dX12_isBy_51 : decode cX12_isBy 51 = .ok (.iload_n 3, 1) := by decide +kernel
theorem dX12_isBy_52 : decode cX12_isBy 52 = .ok (.ifCond .eq 24, 3) := by decide +kernel
theorem dX12_isBy_55 : decode cX12_isBy 55 = .ok (.iload 4, 2) := by decide +kernel
theorem dX12_isBy_57 : decode cX12_isBy 57 = .ok (.iconst 1, 1) := by decide +kernel
theorem dX12_isBy_58 : decode cX12_isBy 58 = .ok (.if_icmp .eq 14, 3) := by decide +kernel
theorem dX12_isBy_61 : decode cX12_isBy 61 = .ok (.iload 4, 2) := by decide +kernel
theorem dX12_isBy_63 : decode cX12_isBy 63 = .ok (.aload_n 0, 1) := by decide +kernel
theorem dX12_isBy_64 : decode cX12_isBy 64 = .ok (.invokevirtual 64, 3) := by decide +kernel
theorem dX12_isBy_67 : decode cX12_isBy 67 = .ok (.iconst 1, 1) := by decide +kernel
theorem dX12_isBy_68 : decode cX12_isBy 68 = .ok (.isub, 1) := by decide +kernel
theorem dX12_isBy_69 : decode cX12_isBy 69 = .ok (.if_icmp .ne 7, 3) := by decide +kernel
theorem dX12_isBy_72 : decode cX12_isBy 72 = .ok (.iconst 1, 1) := by decide +kernel
theorem dX12_isBy_73 : decode cX12_isBy 73 = .ok (.goto 4, 3) := by decide +kernel
theorem dX12_isBy_76 : decode cX12_isBy 76 = .ok (.iconst 0, 1) := by decide +kernel
theorem dX12_isBy_77 : decode cX12_isBy 77 = .ok (.ireturn, 1) := by decide +kernel
theorem dX12_movedTo_0 : decode cX12_movedTo 0 = .ok (.aload_n 0, 1) := by decide +kernel
theorem dX12_movedTo_1 : decode cX12_movedTo 1 = .ok (.iload_n 1, 1) := by decide +kernel
theorem dX12_movedTo_2 : decode cX12_movedTo 2 = .ok (.iconst 0, 1) := by decide +kernel
theorem dX12_movedTo_3 : decode cX12_movedTo 3 = .ok (.invokevirtual 97, 3) := by decide +kernel
theorem dX12_movedTo_6 : decode cX12_movedTo 6 = .ok (.istore_n 3, 1) := by decide +kernel
theorem dX12_movedTo_7 : decode cX12_movedTo 7 = .ok (.iload_n 3, 1) := by decide +kernel
theorem dX12_movedTo_8 : decode cX12_movedTo 8 = .ok (.iconst 3, 1) := by decide +kernel
theorem dX12_movedTo_9 : decode cX12_movedTo 9 = .ok (.if_icmp .ne 7, 3) := by decide +kernel
theorem dX12_movedTo_12 : decode cX12_movedTo 12 = .ok (.iconst 2, 1) := by decide +kernel
theorem dX12_movedTo_13 : decode cX12_movedTo 13 = .ok (.goto 4, 3) := by decide +kernel
theorem dX12_movedTo_16 : decode cX12_movedTo 16 = .ok (.iconst 1, 1) := by decide +kernel
theorem dX12_movedTo_17 : decode cX12_movedTo 17 = .ok (.istore 4, 2) := by decide +kernel
theorem dX12_movedTo_19 : decode cX12_movedTo 19 = .ok (.iload_n 2, 1) := by decide +kernel
theorem dX12_movedTo_20 : decode cX12_movedTo 20 = .ok (.aload_n 0, 1) := by decide +kernel
theorem dX12_movedTo_21 : decode cX12_movedTo 21 = .ok (.iload_n 1, 1) := by decide +kernel
theorem dX12_movedTo_22 : decode cX12_movedTo 22 = .ok (.iconst 1, 1) := by decide +kernel
theorem dX12_movedTo_23 : decode cX12_movedTo 23 = .ok (.invokevirtual 97, 3) := by decide +kernel
theorem dX12_movedTo_26 : decode cX12_movedTo 26 = .ok (.if_icmp .ne 7, 3) := by decide +kernel
theorem dX12_movedTo_29 : decode cX12_movedTo 29 = .ok (.iconst 1, 1) := by decide +kernel
theorem dX12_movedTo_30 : decode cX12_movedTo 30 = .ok (.goto 4, 3) := by decide +kernel
theorem dX12_movedTo_33 : decode cX12_movedTo 33 = .ok (.iconst 0, 1) := by decide +kernel
theorem dX12_movedTo_34 : decode cX12_movedTo 34 = .ok (.istore 5, 2) := by decide +kernel
theorem dX12_movedTo_36 : decode cX12_movedTo 36 = .ok (.iload 5, 2) := by decide +kernel
theorem dX12_movedTo_38 : decode cX12_movedTo 38 = .ok (.iload_n 3, 1) := by decide +kernel
theorem dX12_movedTo_39 : decode cX12_movedTo 39 = .ok (.iconst 2, 1) := by decide +kernel
theorem dX12_movedTo_40 : decode cX12_movedTo 40 = .ok (.if_icmp .eq 7, 3) := by decide +kernel
theorem dX12_movedTo_43 : decode cX12_movedTo 43 = .ok (.iconst 1, 1) := by decide +kernel
theorem dX12_movedTo_44 : decode cX12_movedTo 44 = .ok (.goto 4, 3) := by decide +kernel
theorem dX12_movedTo_47 : decode cX12_movedTo 47 = .ok (.iconst 0, 1) := by decide +kernel
theorem dX12_movedTo_48 : decode cX12_movedTo 48 = .ok (.if_icmp .ne 10, 3) := by decide +kernel
theorem dX12_movedTo_51 : decode cX12_movedTo 51 = .ok (.iload_n 2, 1) := by decide +kernel
theorem dX12_movedTo_52 : decode cX12_movedTo 52 = .ok (.iload 4, 2) := by decide +kernel
theorem dX12_movedTo_54 : decode cX12_movedTo 54 = .ok (.iadd, 1) := by decide +kernel
theorem dX12_movedTo_55 : decode cX12_movedTo 55 = .ok (.goto 7, 3) := by decide +kernel
theorem dX12_movedTo_58 : decode cX12_movedTo 58 = .ok (.iload_n 2, 1) := by decide +kernel
theorem dX12_movedTo_59 : decode cX12_movedTo 59 = .ok (.iload 4, 2) := by decide +kernel
theorem dX12_movedTo_61 : decode cX12_movedTo 61 = .ok (.isub, 1) := by decide +kernel
theorem dX12_movedTo_62 : decode cX12_movedTo 62 = .ok (.ireturn, 1) := by decide +kernel
theorem dX12_isBeside_0 : decode cX12_isBeside 0 = .ok (.iload_n 2, 1) := by decide +kernel
theorem dX12_isBeside_1 : decode cX12_isBeside 1 = .ok (.aload_n 0, 1) := by decide +kernel
theorem dX12_isBeside_2 : decode cX12_isBeside 2 = .ok (.iload_n 1, 1) := by decide +kernel
theorem dX12_isBeside_3 : decode cX12_isBeside 3 = .ok (.iconst 1, 1) := by decide +kernel
theorem dX12_isBeside_4 : decode cX12_isBeside 4 = .ok (.invokevirtual 97, 3) := by decide +kernel
theorem dX12_isBeside_7 : decode cX12_isBeside 7 = .ok (.if_icmp .eq 15, 3) := by decide +kernel
theorem dX12_isBeside_10 : decode cX12_isBeside 10 = .ok (.iload_n 2, 1) := by decide +kernel
theorem dX12_isBeside_11 : decode cX12_isBeside 11 = .ok (.aload_n 0, 1) := by decide +kernel
theorem dX12_isBeside_12 : decode cX12_isBeside 12 = .ok (.iload_n 1, 1) := by decide +kernel
theorem dX12_isBeside_13 : decode cX12_isBeside 13 = .ok (.iconst 1, 1) := by decide +kernel
theorem dX12_isBeside_14 : decode cX12_isBeside 14 = .ok (.invokevirtual 97, 3) := by decide +kernel
theorem dX12_isBeside_17 : decode cX12_isBeside 17 = .ok (.iconst 1, 1) := by decide +kernel
theorem dX12_isBeside_18 : decode cX12_isBeside 18 = .ok (.isub, 1) := by decide +kernel
theorem dX12_isBeside_19 : decode cX12_isBeside 19 = .ok (.if_icmp .ne 7, 3) := by decide +kernel
theorem dX12_isBeside_22 : decode cX12_isBeside 22 = .ok (.iconst 1, 1) := by decide +kernel
theorem dX12_isBeside_23 : decode cX12_isBeside 23 = .ok (.goto 4, 3) := by decide +kernel
theorem dX12_isBeside_26 : decode cX12_isBeside 26 = .ok (.iconst 0, 1) := by decide +kernel
theorem dX12_isBeside_27 : decode cX12_isBeside 27 = .ok (.ireturn, 1) := by decide +kernel
theorem dX12_goMoon_0 : decode cX12_goMoon 0 = .ok (.iconst 0, 1) := by decide +kernel
theorem dX12_goMoon_1 : decode cX12_goMoon 1 = .ok (.istore_n 2, 1) := by decide +kernel
theorem dX12_goMoon_2 : decode cX12_goMoon 2 = .ok (.iconst 0, 1) := by decide +kernel
theorem dX12_goMoon_3 : decode cX12_goMoon 3 = .ok (.istore_n 3, 1) := by decide +kernel
theorem dX12_goMoon_4 : decode cX12_goMoon 4 = .ok (.iload_n 3, 1) := by decide +kernel
theorem dX12_goMoon_5 : decode cX12_goMoon 5 = .ok (.aload_n 0, 1) := by decide +kernel
theorem dX12_goMoon_6 : decode cX12_goMoon 6 = .ok (.invokevirtual 64, 3) := by decide +kernel
theorem dX12_goMoon_9 : decode cX12_goMoon 9 = .ok (.if_icmp .ge 156, 3) := by decide +kernel
theorem dX12_goMoon_12 : decode cX12_goMoon 12 = .ok (.aload_n 0, 1) := by decide +kernel
theorem dX12_goMoon_13 : decode cX12_goMoon 13 = .ok (.iload_n 1, 1) := by decide +kernel
theorem dX12_goMoon_14 : decode cX12_goMoon 14 = .ok (.iload_n 3, 1) := by decide +kernel
theorem dX12_goMoon_15 : decode cX12_goMoon 15 = .ok (.invokevirtual 108, 3) := by decide +kernel
theorem dX12_goMoon_18 : decode cX12_goMoon 18 = .ok (.ifCond .eq 141, 3) := by decide +kernel
end
section
theorem dX12_goMoon_21 : decode cX12_goMoon 21 = .ok (.iconst 0, 1) := by decide +kernel
theorem dX12_goMoon_22 : decode cX12_goMoon 22 = .ok (.istore 4, 2) := by decide +kernel
theorem dX12_goMoon_24 : decode cX12_goMoon 24 = .ok (.iload 4, 2) := by decide +kernel
theorem dX12_goMoon_26 : decode cX12_goMoon 26 = .ok (.iconst 5, 1) := by decide +kernel
theorem dX12_goMoon_27 : decode cX12_goMoon 27 = .ok (.if_icmp .ge 17, 3) := by decide +kernel
theorem dX12_goMoon_30 : decode cX12_goMoon 30 = .ok (.aload_n 0, 1) := by decide +kernel
theorem dX12_goMoon_31 : decode cX12_goMoon 31 = .ok (.getfield 30, 3) := by decide +kernel
theorem dX12_goMoon_34 : decode cX12_goMoon 34 = .ok (.iload 4, 2) := by decide +kernel
theorem dX12_goMoon_36 : decode cX12_goMoon 36 = .ok (.iconst 0, 1) := by decide +kernel
theorem dX12_goMoon_37 : decode cX12_goMoon 37 = .ok (.iastore, 1) := by decide +kernel
theorem dX12_goMoon_38 : decode cX12_goMoon 38 = .ok (.iinc 4 1, 3) := by decide +kernel
theorem dX12_goMoon_41 : decode cX12_goMoon 41 = .ok (.goto (-17), 3) := by decide +kernel
theorem dX12_goMoon_44 : decode cX12_goMoon 44 = .ok (.iconst 0, 1) := by decide +kernel
theorem dX12_goMoon_45 : decode cX12_goMoon 45 = .ok (.istore 4, 2) := by decide +kernel
theorem dX12_goMoon_47 : decode cX12_goMoon 47 = .ok (.iload 4, 2) := by decide +kernel
theorem dX12_goMoon_49 : decode cX12_goMoon 49 = .ok (.iconst 5, 1) := by decide +kernel
theorem dX12_goMoon_50 : decode cX12_goMoon 50 = .ok (.if_icmp .ge 75, 3) := by decide +kernel
theorem dX12_goMoon_53 : decode cX12_goMoon 53 = .ok (.aload_n 0, 1) := by decide +kernel
theorem dX12_goMoon_54 : decode cX12_goMoon 54 = .ok (.getfield 27, 3) := by decide +kernel
theorem dX12_goMoon_57 : decode cX12_goMoon 57 = .ok (.bipush 24, 2) := by decide +kernel
theorem dX12_goMoon_59 : decode cX12_goMoon 59 = .ok (.iload 4, 2) := by decide +kernel
theorem dX12_goMoon_61 : decode cX12_goMoon 61 = .ok (.imul, 1) := by decide +kernel
theorem dX12_goMoon_62 : decode cX12_goMoon 62 = .ok (.iload_n 3, 1) := by decide +kernel
theorem dX12_goMoon_63 : decode cX12_goMoon 63 = .ok (.iadd, 1) := by decide +kernel
theorem dX12_goMoon_64 : decode cX12_goMoon 64 = .ok (.iaload, 1) := by decide +kernel
theorem dX12_goMoon_65 : decode cX12_goMoon 65 = .ok (.istore 5, 2) := by decide +kernel
theorem dX12_goMoon_67 : decode cX12_goMoon 67 = .ok (.aload_n 0, 1) := by decide +kernel
theorem dX12_goMoon_68 : decode cX12_goMoon 68 = .ok (.iload_n 1, 1) := by decide +kernel
theorem dX12_goMoon_69 : decode cX12_goMoon 69 = .ok (.iload 4, 2) := by decide +kernel
theorem dX12_goMoon_71 : decode cX12_goMoon 71 = .ok (.invokevirtual 112, 3) := by decide +kernel
theorem dX12_goMoon_74 : decode cX12_goMoon 74 = .ok (.ifCond .eq 13, 3) := by decide +kernel
theorem dX12_goMoon_77 : decode cX12_goMoon 77 = .ok (.aload_n 0, 1) := by decide +kernel
theorem dX12_goMoon_78 : decode cX12_goMoon 78 = .ok (.iload_n 1, 1) := by decide +kernel
theorem dX12_goMoon_79 : decode cX12_goMoon 79 = .ok (.iload 4, 2) := by decide +kernel
theorem dX12_goMoon_81 : decode cX12_goMoon 81 = .ok (.invokevirtual 115, 3) := by decide +kernel
theorem dX12_goMoon_84 : decode cX12_goMoon 84 = .ok (.goto 5, 3) := by decide +kernel
theorem dX12_goMoon_87 : decode cX12_goMoon 87 = .ok (.iload 4, 2) := by decide +kernel
theorem dX12_goMoon_89 : decode cX12_goMoon 89 = .ok (.istore 6, 2) := by decide +kernel
theorem dX12_goMoon_91 : decode cX12_goMoon 91 = .ok (.iload 6, 2) := by decide +kernel
theorem dX12_goMoon_93 : decode cX12_goMoon 93 = .ok (.invokestatic 77, 3) := by decide +kernel
theorem dX12_goMoon_96 : decode cX12_goMoon 96 = .ok (.ifCond .eq 18, 3) := by decide +kernel
theorem dX12_goMoon_99 : decode cX12_goMoon 99 = .ok (.aload_n 0, 1) := by decide +kernel
theorem dX12_goMoon_100 : decode cX12_goMoon 100 = .ok (.getfield 30, 3) := by decide +kernel
theorem dX12_goMoon_103 : decode cX12_goMoon 103 = .ok (.iload 6, 2) := by decide +kernel
theorem dX12_goMoon_105 : decode cX12_goMoon 105 = .ok (.dup2, 1) := by decide +kernel
theorem dX12_goMoon_106 : decode cX12_goMoon 106 = .ok (.iaload, 1) := by decide +kernel
theorem dX12_goMoon_107 : decode cX12_goMoon 107 = .ok (.iload 5, 2) := by decide +kernel
theorem dX12_goMoon_109 : decode cX12_goMoon 109 = .ok (.iadd, 1) := by decide +kernel
theorem dX12_goMoon_110 : decode cX12_goMoon 110 = .ok (.iastore, 1) := by decide +kernel
theorem dX12_goMoon_111 : decode cX12_goMoon 111 = .ok (.goto 8, 3) := by decide +kernel
theorem dX12_goMoon_114 : decode cX12_goMoon 114 = .ok (.iload_n 2, 1) := by decide +kernel
theorem dX12_goMoon_115 : decode cX12_goMoon 115 = .ok (.iload 5, 2) := by decide +kernel
theorem dX12_goMoon_117 : decode cX12_goMoon 117 = .ok (.iadd, 1) := by decide +kernel
theorem dX12_goMoon_118 : decode cX12_goMoon 118 = .ok (.istore_n 2, 1) := by decide +kernel
theorem dX12_goMoon_119 : decode cX12_goMoon 119 = .ok (.iinc 4 1, 3) := by decide +kernel
theorem dX12_goMoon_122 : decode cX12_goMoon 122 = .ok (.goto (-75), 3) := by decide +kernel
theorem dX12_goMoon_125 : decode cX12_goMoon 125 = .ok (.iconst 0, 1) := by decide +kernel
theorem dX12_goMoon_126 : decode cX12_goMoon 126 = .ok (.istore 4, 2) := by decide +kernel
theorem dX12_goMoon_128 : decode cX12_goMoon 128 = .ok (.iload 4, 2) := by decide +kernel
theorem dX12_goMoon_130 : decode cX12_goMoon 130 = .ok (.iconst 5, 1) := by decide +kernel
theorem dX12_goMoon_131 : decode cX12_goMoon 131 = .ok (.if_icmp .ge 28, 3) := by decide +kernel
theorem dX12_goMoon_134 : decode cX12_goMoon 134 = .ok (.aload_n 0, 1) := by decide +kernel
theorem dX12_goMoon_135 : decode cX12_goMoon 135 = .ok (.getfield 27, 3) := by decide +kernel
theorem dX12_goMoon_138 : decode cX12_goMoon 138 = .ok (.bipush 24, 2) := by decide +kernel
theorem dX12_goMoon_140 : decode cX12_goMoon 140 = .ok (.iload 4, 2) := by decide +kernel
theorem dX12_goMoon_142 : decode cX12_goMoon 142 = .ok (.imul, 1) := by decide +kernel
theorem dX12_goMoon_143 : decode cX12_goMoon 143 = .ok (.iload_n 3, 1) := by decide +kernel
theorem dX12_goMoon_144 : decode cX12_goMoon 144 = .ok (.iadd, 1) := by decide +kernel
theorem dX12_goMoon_145 : decode cX12_goMoon 145 = .ok (.aload_n 0, 1) := by decide +kernel
theorem dX12_goMoon_146 : decode cX12_goMoon 146 = .ok (.getfield 30, 3) := by decide +kernel
theorem dX12_goMoon_149 : decode cX12_goMoon 149 = .ok (.iload 4, 2) := by decide +kernel
theorem dX12_goMoon_151 : decode cX12_goMoon 151 = .ok (.iaload, 1) := by decide +kernel
theorem dX12_goMoon_152 : decode cX12_goMoon 152 = .ok (.iastore, 1) := by decide +kernel
theorem dX12_goMoon_153 : decode cX12_goMoon 153 = .ok (.iinc 4 1, 3) := by decide +kernel
theorem dX12_goMoon_156 : decode cX12_goMoon 156 = .ok (.goto (-28), 3) := by decide +kernel
theorem dX12_goMoon_159 : decode cX12_goMoon 159 = .ok (.iinc 3 1, 3) := by decide +kernel
theorem dX12_goMoon_162 : decode cX12_goMoon 162 = .ok (.goto (-158), 3) := by decide +kernel
theorem dX12_goMoon_165 : decode cX12_goMoon 165 = .ok (.iload_n 2, 1) := by decide +kernel
theorem dX12_goMoon_166 : decode cX12_goMoon 166 = .ok (.ireturn, 1) := by decide +kernel
theorem dX12_goMoons_0 : decode cX12_goMoons 0 = .ok (.iconst 0, 1) := by decide +kernel
theorem dX12_goMoons_1 : decode cX12_goMoons 1 = .ok (.istore_n 1, 1) := by decide +kernel
theorem dX12_goMoons_2 : decode cX12_goMoons 2 = .ok (.iload_n 1, 1) := by decide +kernel
theorem dX12_goMoons_3 : decode cX12_goMoons 3 = .ok (.aload_n 0, 1) := by decide +kernel
theorem dX12_goMoons_4 : decode cX12_goMoons 4 = .ok (.invokevirtual 68, 3) := by decide +kernel
theorem dX12_goMoons_7 : decode cX12_goMoons 7 = .ok (.if_icmp .ge 33, 3) := by decide +kernel
theorem dX12_goMoons_10 : decode cX12_goMoons 10 = .ok (.aload_n 0, 1) := by decide +kernel
theorem dX12_goMoons_11 : decode cX12_goMoons 11 = .ok (.getfield 33, 3) := by decide +kernel
theorem dX12_goMoons_14 : decode cX12_goMoons 14 = .ok (.iload_n 1, 1) := by decide +kernel
theorem dX12_goMoons_15 : decode cX12_goMoons 15 = .ok (.aload_n 0, 1) := by decide +kernel
theorem dX12_goMoons_16 : decode cX12_goMoons 16 = .ok (.getfield 33, 3) := by decide +kernel
theorem dX12_goMoons_19 : decode cX12_goMoons 19 = .ok (.iload_n 1, 1) := by decide +kernel
theorem dX12_goMoons_20 : decode cX12_goMoons 20 = .ok (.iaload, 1) := by decide +kernel
theorem dX12_goMoons_21 : decode cX12_goMoons 21 = .ok (.aload_n 0, 1) := by decide +kernel
theorem dX12_goMoons_22 : decode cX12_goMoons 22 = .ok (.iload_n 1, 1) := by decide +kernel
theorem dX12_goMoons_23 : decode cX12_goMoons 23 = .ok (.iconst 3, 1) := by decide +kernel
theorem dX12_goMoons_24 : decode cX12_goMoons 24 = .ok (.invokevirtual 97, 3) := by decide +kernel
theorem dX12_goMoons_27 : decode cX12_goMoons 27 = .ok (.iadd, 1) := by decide +kernel
theorem dX12_goMoons_28 : decode cX12_goMoons 28 = .ok (.aload_n 0, 1) := by decide +kernel
theorem dX12_goMoons_29 : decode cX12_goMoons 29 = .ok (.invokevirtual 64, 3) := by decide +kernel
theorem dX12_goMoons_32 : decode cX12_goMoons 32 = .ok (.irem, 1) := by decide +kernel
theorem dX12_goMoons_33 : decode cX12_goMoons 33 = .ok (.iastore, 1) := by decide +kernel
theorem dX12_goMoons_34 : decode cX12_goMoons 34 = .ok (.iinc 1 1, 3) := by decide +kernel
theorem dX12_goMoons_37 : decode cX12_goMoons 37 = .ok (.goto (-35), 3) := by decide +kernel
theorem dX12_goMoons_40 : decode cX12_goMoons 40 = .ok (.aload_n 0, 1) := by decide +kernel
theorem dX12_goMoons_41 : decode cX12_goMoons 41 = .ok (.dup, 1) := by decide +kernel
theorem dX12_goMoons_42 : decode cX12_goMoons 42 = .ok (.getfield 101, 3) := by decide +kernel
theorem dX12_goMoons_45 : decode cX12_goMoons 45 = .ok (.iconst 1, 1) := by decide +kernel
theorem dX12_goMoons_46 : decode cX12_goMoons 46 = .ok (.iadd, 1) := by decide +kernel
theorem dX12_goMoons_47 : decode cX12_goMoons 47 = .ok (.putfield 101, 3) := by decide +kernel
theorem dX12_goMoons_50 : decode cX12_goMoons 50 = .ok (.return_, 1) := by decide +kernel
theorem dX12_goRound_0 : decode cX12_goRound 0 = .ok (.iconst 0, 1) := by decide +kernel
theorem dX12_goRound_1 : decode cX12_goRound 1 = .ok (.istore_n 1, 1) := by decide +kernel
theorem dX12_goRound_2 : decode cX12_goRound 2 = .ok (.iload_n 1, 1) := by decide +kernel
theorem dX12_goRound_3 : decode cX12_goRound 3 = .ok (.iconst 5, 1) := by decide +kernel
theorem dX12_goRound_4 : decode cX12_goRound 4 = .ok (.if_icmp .ge 89, 3) := by decide +kernel
theorem dX12_goRound_7 : decode cX12_goRound 7 = .ok (.iconst 0, 1) := by decide +kernel
theorem dX12_goRound_8 : decode cX12_goRound 8 = .ok (.istore_n 2, 1) := by decide +kernel
theorem dX12_goRound_9 : decode cX12_goRound 9 = .ok (.iload_n 2, 1) := by decide +kernel
theorem dX12_goRound_10 : decode cX12_goRound 10 = .ok (.aload_n 0, 1) := by decide +kernel
theorem dX12_goRound_11 : decode cX12_goRound 11 = .ok (.invokevirtual 64, 3) := by decide +kernel
theorem dX12_goRound_14 : decode cX12_goRound 14 = .ok (.if_icmp .ge 40, 3) := by decide +kernel
theorem dX12_goRound_17 : decode cX12_goRound 17 = .ok (.aload_n 0, 1) := by decide +kernel
theorem dX12_goRound_18 : decode cX12_goRound 18 = .ok (.getfield 30, 3) := by decide +kernel
theorem dX12_goRound_21 : decode cX12_goRound 21 = .ok (.iload_n 2, 1) := by decide +kernel
theorem dX12_goRound_22 : decode cX12_goRound 22 = .ok (.aload_n 0, 1) := by decide +kernel
theorem dX12_goRound_23 : decode cX12_goRound 23 = .ok (.getfield 7, 3) := by decide +kernel
theorem dX12_goRound_26 : decode cX12_goRound 26 = .ok (.iconst 1, 1) := by decide +kernel
theorem dX12_goRound_27 : decode cX12_goRound 27 = .ok (.iload_n 1, 1) := by decide +kernel
theorem dX12_goRound_28 : decode cX12_goRound 28 = .ok (.iadd, 1) := by decide +kernel
theorem dX12_goRound_29 : decode cX12_goRound 29 = .ok (.iaload, 1) := by decide +kernel
theorem dX12_goRound_30 : decode cX12_goRound 30 = .ok (.iadd, 1) := by decide +kernel
theorem dX12_goRound_31 : decode cX12_goRound 31 = .ok (.aload_n 0, 1) := by decide +kernel
theorem dX12_goRound_32 : decode cX12_goRound 32 = .ok (.invokevirtual 64, 3) := by decide +kernel
theorem dX12_goRound_35 : decode cX12_goRound 35 = .ok (.irem, 1) := by decide +kernel
theorem dX12_goRound_36 : decode cX12_goRound 36 = .ok (.aload_n 0, 1) := by decide +kernel
theorem dX12_goRound_37 : decode cX12_goRound 37 = .ok (.getfield 27, 3) := by decide +kernel
theorem dX12_goRound_40 : decode cX12_goRound 40 = .ok (.bipush 24, 2) := by decide +kernel
theorem dX12_goRound_42 : decode cX12_goRound 42 = .ok (.iload_n 1, 1) := by decide +kernel
theorem dX12_goRound_43 : decode cX12_goRound 43 = .ok (.imul, 1) := by decide +kernel
theorem dX12_goRound_44 : decode cX12_goRound 44 = .ok (.iload_n 2, 1) := by decide +kernel
theorem dX12_goRound_45 : decode cX12_goRound 45 = .ok (.iadd, 1) := by decide +kernel
theorem dX12_goRound_46 : decode cX12_goRound 46 = .ok (.iaload, 1) := by decide +kernel
theorem dX12_goRound_47 : decode cX12_goRound 47 = .ok (.iastore, 1) := by decide +kernel
theorem dX12_goRound_48 : decode cX12_goRound 48 = .ok (.iinc 2 1, 3) := by decide +kernel
theorem dX12_goRound_51 : decode cX12_goRound 51 = .ok (.goto (-42), 3) := by decide +kernel
theorem dX12_goRound_54 : decode cX12_goRound 54 = .ok (.iconst 0, 1) := by decide +kernel
theorem dX12_goRound_55 : decode cX12_goRound 55 = .ok (.istore_n 2, 1) := by decide +kernel
theorem dX12_goRound_56 : decode cX12_goRound 56 = .ok (.iload_n 2, 1) := by decide +kernel
theorem dX12_goRound_57 : decode cX12_goRound 57 = .ok (.aload_n 0, 1) := by decide +kernel
theorem dX12_goRound_58 : decode cX12_goRound 58 = .ok (.invokevirtual 64, 3) := by decide +kernel
theorem dX12_goRound_61 : decode cX12_goRound 61 = .ok (.if_icmp .ge 26, 3) := by decide +kernel
theorem dX12_goRound_64 : decode cX12_goRound 64 = .ok (.aload_n 0, 1) := by decide +kernel
theorem dX12_goRound_65 : decode cX12_goRound 65 = .ok (.getfield 27, 3) := by decide +kernel
theorem dX12_goRound_68 : decode cX12_goRound 68 = .ok (.bipush 24, 2) := by decide +kernel
theorem dX12_goRound_70 : decode cX12_goRound 70 = .ok (.iload_n 1, 1) := by decide +kernel
theorem dX12_goRound_71 : decode cX12_goRound 71 = .ok (.imul, 1) := by decide +kernel
theorem dX12_goRound_72 : decode cX12_goRound 72 = .ok (.iload_n 2, 1) := by decide +kernel
theorem dX12_goRound_73 : decode cX12_goRound 73 = .ok (.iadd, 1) := by decide +kernel
theorem dX12_goRound_74 : decode cX12_goRound 74 = .ok (.aload_n 0, 1) := by decide +kernel
theorem dX12_goRound_75 : decode cX12_goRound 75 = .ok (.getfield 30, 3) := by decide +kernel
theorem dX12_goRound_78 : decode cX12_goRound 78 = .ok (.iload_n 2, 1) := by decide +kernel
theorem dX12_goRound_79 : decode cX12_goRound 79 = .ok (.iaload, 1) := by decide +kernel
theorem dX12_goRound_80 : decode cX12_goRound 80 = .ok (.iastore, 1) := by decide +kernel
theorem dX12_goRound_81 : decode cX12_goRound 81 = .ok (.iinc 2 1, 3) := by decide +kernel
theorem dX12_goRound_84 : decode cX12_goRound 84 = .ok (.goto (-28), 3) := by decide +kernel
theorem dX12_goRound_87 : decode cX12_goRound 87 = .ok (.iinc 1 1, 3) := by decide +kernel
theorem dX12_goRound_90 : decode cX12_goRound 90 = .ok (.goto (-88), 3) := by decide +kernel
theorem dX12_goRound_93 : decode cX12_goRound 93 = .ok (.aload_n 0, 1) := by decide +kernel
theorem dX12_goRound_94 : decode cX12_goRound 94 = .ok (.invokevirtual 118, 3) := by decide +kernel
theorem dX12_goRound_97 : decode cX12_goRound 97 = .ok (.iconst 0, 1) := by decide +kernel
theorem dX12_goRound_98 : decode cX12_goRound 98 = .ok (.istore_n 1, 1) := by decide +kernel
theorem dX12_goRound_99 : decode cX12_goRound 99 = .ok (.iconst 0, 1) := by decide +kernel
theorem dX12_goRound_100 : decode cX12_goRound 100 = .ok (.istore_n 2, 1) := by decide +kernel
theorem dX12_goRound_101 : decode cX12_goRound 101 = .ok (.iload_n 2, 1) := by decide +kernel
theorem dX12_goRound_102 : decode cX12_goRound 102 = .ok (.aload_n 0, 1) := by decide +kernel
theorem dX12_goRound_103 : decode cX12_goRound 103 = .ok (.invokevirtual 68, 3) := by decide +kernel
theorem dX12_goRound_106 : decode cX12_goRound 106 = .ok (.if_icmp .ge 29, 3) := by decide +kernel
theorem dX12_goRound_109 : decode cX12_goRound 109 = .ok (.iload_n 1, 1) := by decide +kernel
theorem dX12_goRound_110 : decode cX12_goRound 110 = .ok (.aload_n 0, 1) := by decide +kernel
theorem dX12_goRound_111 : decode cX12_goRound 111 = .ok (.iload_n 2, 1) := by decide +kernel
theorem dX12_goRound_112 : decode cX12_goRound 112 = .ok (.invokevirtual 121, 3) := by decide +kernel
theorem dX12_goRound_115 : decode cX12_goRound 115 = .ok (.ifCond .eq 11, 3) := by decide +kernel
theorem dX12_goRound_118 : decode cX12_goRound 118 = .ok (.aload_n 0, 1) := by decide +kernel
theorem dX12_goRound_119 : decode cX12_goRound 119 = .ok (.iload_n 2, 1) := by decide +kernel
theorem dX12_goRound_120 : decode cX12_goRound 120 = .ok (.invokevirtual 124, 3) := by decide +kernel
theorem dX12_goRound_123 : decode cX12_goRound 123 = .ok (.goto 4, 3) := by decide +kernel
theorem dX12_goRound_126 : decode cX12_goRound 126 = .ok (.iconst 0, 1) := by decide +kernel
theorem dX12_goRound_127 : decode cX12_goRound 127 = .ok (.iadd, 1) := by decide +kernel
theorem dX12_goRound_128 : decode cX12_goRound 128 = .ok (.istore_n 1, 1) := by decide +kernel
theorem dX12_goRound_129 : decode cX12_goRound 129 = .ok (.iinc 2 1, 3) := by decide +kernel
theorem dX12_goRound_132 : decode cX12_goRound 132 = .ok (.goto (-31), 3) := by decide +kernel
theorem dX12_goRound_135 : decode cX12_goRound 135 = .ok (.iload_n 1, 1) := by decide +kernel
theorem dX12_goRound_136 : decode cX12_goRound 136 = .ok (.ireturn, 1) := by decide +kernel
theorem dX12_round_0 : decode cX12_round 0 = .ok (.aload_n 0, 1) := by decide +kernel
theorem dX12_round_1 : decode cX12_round 1 = .ok (.getfield 7, 3) := by decide +kernel
theorem dX12_round_4 : decode cX12_round 4 = .ok (.sipush 150, 3) := by decide +kernel
theorem dX12_round_7 : decode cX12_round 7 = .ok (.iaload, 1) := by decide +kernel
theorem dX12_round_8 : decode cX12_round 8 = .ok (.bipush 6, 2) := by decide +kernel
theorem dX12_round_10 : decode cX12_round 10 = .ok (.if_icmp .ne 47, 3) := by decide +kernel
theorem dX12_round_13 : decode cX12_round 13 = .ok (.iconst 0, 1) := by decide +kernel
theorem dX12_round_14 : decode cX12_round 14 = .ok (.istore_n 1, 1) := by decide +kernel
theorem dX12_round_15 : decode cX12_round 15 = .ok (.iload_n 1, 1) := by decide +kernel
theorem dX12_round_16 : decode cX12_round 16 = .ok (.sipush 635, 3) := by decide +kernel
theorem dX12_round_19 : decode cX12_round 19 = .ok (.if_icmp .ge 29, 3) := by decide +kernel
theorem dX12_round_22 : decode cX12_round 22 = .ok (.aload_n 0, 1) := by decide +kernel
theorem dX12_round_23 : decode cX12_round 23 = .ok (.getfield 7, 3) := by decide +kernel
theorem dX12_round_26 : decode cX12_round 26 = .ok (.sipush 151, 3) := by decide +kernel
theorem dX12_round_29 : decode cX12_round 29 = .ok (.iload_n 1, 1) := by decide +kernel
theorem dX12_round_30 : decode cX12_round 30 = .ok (.iadd, 1) := by decide +kernel
theorem dX12_round_31 : decode cX12_round 31 = .ok (.aload_n 0, 1) := by decide +kernel
theorem dX12_round_32 : decode cX12_round 32 = .ok (.getfield 7, 3) := by decide +kernel
theorem dX12_round_35 : decode cX12_round 35 = .ok (.sipush 278, 3) := by decide +kernel
theorem dX12_round_38 : decode cX12_round 38 = .ok (.iload_n 1, 1) := by decide +kernel
theorem dX12_round_39 : decode cX12_round 39 = .ok (.iadd, 1) := by decide +kernel
theorem dX12_round_40 : decode cX12_round 40 = .ok (.iaload, 1) := by decide +kernel
theorem dX12_round_41 : decode cX12_round 41 = .ok (.iastore, 1) := by decide +kernel
theorem dX12_round_42 : decode cX12_round 42 = .ok (.iinc 1 1, 3) := by decide +kernel
theorem dX12_round_45 : decode cX12_round 45 = .ok (.goto (-30), 3) := by decide +kernel
theorem dX12_round_48 : decode cX12_round 48 = .ok (.aload_n 0, 1) := by decide +kernel
theorem dX12_round_49 : decode cX12_round 49 = .ok (.getfield 7, 3) := by decide +kernel
theorem dX12_round_52 : decode cX12_round 52 = .ok (.sipush 150, 3) := by decide +kernel
theorem dX12_round_55 : decode cX12_round 55 = .ok (.iconst 5, 1) := by decide +kernel
theorem dX12_round_56 : decode cX12_round 56 = .ok (.iastore, 1) := by decide +kernel
theorem dX12_round_57 : decode cX12_round 57 = .ok (.sipush 151, 3) := by decide +kernel
theorem dX12_round_60 : decode cX12_round 60 = .ok (.bipush 127, 2) := by decide +kernel
theorem dX12_round_62 : decode cX12_round 62 = .ok (.aload_n 0, 1) := by decide +kernel
theorem dX12_round_63 : decode cX12_round 63 = .ok (.getfield 7, 3) := by decide +kernel
theorem dX12_round_66 : decode cX12_round 66 = .ok (.sipush 150, 3) := by decide +kernel
theorem dX12_round_69 : decode cX12_round 69 = .ok (.iaload, 1) := by decide +kernel
theorem dX12_round_70 : decode cX12_round 70 = .ok (.imul, 1) := by decide +kernel
theorem dX12_round_71 : decode cX12_round 71 = .ok (.iadd, 1) := by decide +kernel
theorem dX12_round_72 : decode cX12_round 72 = .ok (.istore_n 1, 1) := by decide +kernel
theorem dX12_round_73 : decode cX12_round 73 = .ok (.iconst 0, 1) := by decide +kernel
theorem dX12_round_74 : decode cX12_round 74 = .ok (.istore_n 2, 1) := by decide +kernel
theorem dX12_round_75 : decode cX12_round 75 = .ok (.iload_n 2, 1) := by decide +kernel
theorem dX12_round_76 : decode cX12_round 76 = .ok (.bipush 120, 2) := by decide +kernel
theorem dX12_round_78 : decode cX12_round 78 = .ok (.if_icmp .ge 26, 3) := by decide +kernel
theorem dX12_round_81 : decode cX12_round 81 = .ok (.aload_n 0, 1) := by decide +kernel
theorem dX12_round_82 : decode cX12_round 82 = .ok (.getfield 7, 3) := by decide +kernel
theorem dX12_round_85 : decode cX12_round 85 = .ok (.iload_n 1, 1) := by decide +kernel
theorem dX12_round_86 : decode cX12_round 86 = .ok (.iload_n 2, 1) := by decide +kernel
theorem dX12_round_87 : decode cX12_round 87 = .ok (.iadd, 1) := by decide +kernel
theorem dX12_round_88 : decode cX12_round 88 = .ok (.aload_n 0, 1) := by decide +kernel
theorem dX12_round_89 : decode cX12_round 89 = .ok (.getfield 7, 3) := by decide +kernel
theorem dX12_round_92 : decode cX12_round 92 = .ok (.bipush 6, 2) := by decide +kernel
theorem dX12_round_94 : decode cX12_round 94 = .ok (.iload_n 2, 1) := by decide +kernel
theorem dX12_round_95 : decode cX12_round 95 = .ok (.iadd, 1) := by decide +kernel
theorem dX12_round_96 : decode cX12_round 96 = .ok (.iaload, 1) := by decide +kernel
theorem dX12_round_97 : decode cX12_round 97 = .ok (.iastore, 1) := by decide +kernel
theorem dX12_round_98 : decode cX12_round 98 = .ok (.iinc 2 1, 3) := by decide +kernel
theorem dX12_round_101 : decode cX12_round 101 = .ok (.goto (-26), 3) := by decide +kernel
theorem dX12_round_104 : decode cX12_round 104 = .ok (.iconst 0, 1) := by decide +kernel
theorem dX12_round_105 : decode cX12_round 105 = .ok (.istore_n 2, 1) := by decide +kernel
theorem dX12_round_106 : decode cX12_round 106 = .ok (.iload_n 2, 1) := by decide +kernel
theorem dX12_round_107 : decode cX12_round 107 = .ok (.iconst 4, 1) := by decide +kernel
theorem dX12_round_108 : decode cX12_round 108 = .ok (.if_icmp .ge 33, 3) := by decide +kernel
theorem dX12_round_111 : decode cX12_round 111 = .ok (.aload_n 0, 1) := by decide +kernel
theorem dX12_round_112 : decode cX12_round 112 = .ok (.getfield 7, 3) := by decide +kernel
theorem dX12_round_115 : decode cX12_round 115 = .ok (.iload_n 1, 1) := by decide +kernel
theorem dX12_round_116 : decode cX12_round 116 = .ok (.bipush 120, 2) := by decide +kernel
theorem dX12_round_118 : decode cX12_round 118 = .ok (.iadd, 1) := by decide +kernel
theorem dX12_round_119 : decode cX12_round 119 = .ok (.iload_n 2, 1) := by decide +kernel
theorem dX12_round_120 : decode cX12_round 120 = .ok (.iadd, 1) := by decide +kernel
theorem dX12_round_121 : decode cX12_round 121 = .ok (.aload_n 0, 1) := by decide +kernel
theorem dX12_round_122 : decode cX12_round 122 = .ok (.getfield 7, 3) := by decide +kernel
theorem dX12_round_125 : decode cX12_round 125 = .ok (.bipush 127, 2) := by decide +kernel
theorem dX12_round_127 : decode cX12_round 127 = .ok (.iconst 4, 1) := by decide +kernel
theorem dX12_round_128 : decode cX12_round 128 = .ok (.iload_n 2, 1) := by decide +kernel
theorem dX12_round_129 : decode cX12_round 129 = .ok (.imul, 1) := by decide +kernel
theorem dX12_round_130 : decode cX12_round 130 = .ok (.iadd, 1) := by decide +kernel
theorem dX12_round_131 : decode cX12_round 131 = .ok (.iconst 2, 1) := by decide +kernel
theorem dX12_round_132 : decode cX12_round 132 = .ok (.iadd, 1) := by decide +kernel
theorem dX12_round_133 : decode cX12_round 133 = .ok (.iaload, 1) := by decide +kernel
theorem dX12_round_134 : decode cX12_round 134 = .ok (.iastore, 1) := by decide +kernel
theorem dX12_round_135 : decode cX12_round 135 = .ok (.iinc 2 1, 3) := by decide +kernel
theorem dX12_round_138 : decode cX12_round 138 = .ok (.goto (-32), 3) := by decide +kernel
theorem dX12_round_141 : decode cX12_round 141 = .ok (.aload_n 0, 1) := by decide +kernel
theorem dX12_round_142 : decode cX12_round 142 = .ok (.getfield 7, 3) := by decide +kernel
theorem dX12_round_145 : decode cX12_round 145 = .ok (.iload_n 1, 1) := by decide +kernel
theorem dX12_round_146 : decode cX12_round 146 = .ok (.bipush 124, 2) := by decide +kernel
theorem dX12_round_148 : decode cX12_round 148 = .ok (.iadd, 1) := by decide +kernel
theorem dX12_round_149 : decode cX12_round 149 = .ok (.aload_n 0, 1) := by decide +kernel
theorem dX12_round_150 : decode cX12_round 150 = .ok (.getfield 7, 3) := by decide +kernel
theorem dX12_round_153 : decode cX12_round 153 = .ok (.sipush 148, 3) := by decide +kernel
theorem dX12_round_156 : decode cX12_round 156 = .ok (.iaload, 1) := by decide +kernel
theorem dX12_round_157 : decode cX12_round 157 = .ok (.iastore, 1) := by decide +kernel
theorem dX12_round_158 : decode cX12_round 158 = .ok (.aload_n 0, 1) := by decide +kernel
theorem dX12_round_159 : decode cX12_round 159 = .ok (.getfield 7, 3) := by decide +kernel
theorem dX12_round_162 : decode cX12_round 162 = .ok (.iload_n 1, 1) := by decide +kernel
theorem dX12_round_163 : decode cX12_round 163 = .ok (.bipush 125, 2) := by decide +kernel
theorem dX12_round_165 : decode cX12_round 165 = .ok (.iadd, 1) := by decide +kernel
theorem dX12_round_166 : decode cX12_round 166 = .ok (.aload_n 0, 1) := by decide +kernel
theorem dX12_round_167 : decode cX12_round 167 = .ok (.getfield 7, 3) := by decide +kernel
theorem dX12_round_170 : decode cX12_round 170 = .ok (.sipush 149, 3) := by decide +kernel
theorem dX12_round_173 : decode cX12_round 173 = .ok (.iaload, 1) := by decide +kernel
theorem dX12_round_174 : decode cX12_round 174 = .ok (.iastore, 1) := by decide +kernel
theorem dX12_round_175 : decode cX12_round 175 = .ok (.aload_n 0, 1) := by decide +kernel
theorem dX12_round_176 : decode cX12_round 176 = .ok (.getfield 7, 3) := by decide +kernel
theorem dX12_round_179 : decode cX12_round 179 = .ok (.iload_n 1, 1) := by decide +kernel
theorem dX12_round_180 : decode cX12_round 180 = .ok (.bipush 126, 2) := by decide +kernel
theorem dX12_round_182 : decode cX12_round 182 = .ok (.iadd, 1) := by decide +kernel
theorem dX12_round_183 : decode cX12_round 183 = .ok (.aload_n 0, 1) := by decide +kernel
theorem dX12_round_184 : decode cX12_round 184 = .ok (.invokevirtual 68, 3) := by decide +kernel
theorem dX12_round_187 : decode cX12_round 187 = .ok (.iastore, 1) := by decide +kernel
theorem dX12_round_188 : decode cX12_round 188 = .ok (.aload_n 0, 1) := by decide +kernel
theorem dX12_round_189 : decode cX12_round 189 = .ok (.getfield 7, 3) := by decide +kernel
theorem dX12_round_192 : decode cX12_round 192 = .ok (.sipush 150, 3) := by decide +kernel
theorem dX12_round_195 : decode cX12_round 195 = .ok (.dup2, 1) := by decide +kernel
theorem dX12_round_196 : decode cX12_round 196 = .ok (.iaload, 1) := by decide +kernel
theorem dX12_round_197 : decode cX12_round 197 = .ok (.iconst 1, 1) := by decide +kernel
theorem dX12_round_198 : decode cX12_round 198 = .ok (.iadd, 1) := by decide +kernel
theorem dX12_round_199 : decode cX12_round 199 = .ok (.iastore, 1) := by decide +kernel
theorem dX12_round_200 : decode cX12_round 200 = .ok (.aload_n 0, 1) := by decide +kernel
theorem dX12_round_201 : decode cX12_round 201 = .ok (.aload_n 0, 1) := by decide +kernel
theorem dX12_round_202 : decode cX12_round 202 = .ok (.invokevirtual 127, 3) := by decide +kernel
theorem dX12_round_205 : decode cX12_round 205 = .ok (.invokevirtual 130, 3) := by decide +kernel
theorem dX12_round_208 : decode cX12_round 208 = .ok (.aload_n 0, 1) := by decide +kernel
theorem dX12_round_209 : decode cX12_round 209 = .ok (.invokevirtual 134, 3) := by decide +kernel
theorem dX12_round_212 : decode cX12_round 212 = .ok (.istore_n 2, 1) := by decide +kernel
theorem dX12_round_213 : decode cX12_round 213 = .ok (.iconst 0, 1) := by decide +kernel
theorem dX12_round_214 : decode cX12_round 214 = .ok (.istore_n 3, 1) := by decide +kernel
theorem dX12_round_215 : decode cX12_round 215 = .ok (.iload_n 3, 1) := by decide +kernel
theorem dX12_round_216 : decode cX12_round 216 = .ok (.bipush 120, 2) := by decide +kernel
theorem dX12_round_218 : decode cX12_round 218 = .ok (.if_icmp .ge 24, 3) := by decide +kernel
theorem dX12_round_221 : decode cX12_round 221 = .ok (.aload_n 0, 1) := by decide +kernel
theorem dX12_round_222 : decode cX12_round 222 = .ok (.getfield 7, 3) := by decide +kernel
theorem dX12_round_225 : decode cX12_round 225 = .ok (.bipush 6, 2) := by decide +kernel
theorem dX12_round_227 : decode cX12_round 227 = .ok (.iload_n 3, 1) := by decide +kernel
theorem dX12_round_228 : decode cX12_round 228 = .ok (.iadd, 1) := by decide +kernel
theorem dX12_round_229 : decode cX12_round 229 = .ok (.aload_n 0, 1) := by decide +kernel
theorem dX12_round_230 : decode cX12_round 230 = .ok (.getfield 27, 3) := by decide +kernel
theorem dX12_round_233 : decode cX12_round 233 = .ok (.iload_n 3, 1) := by decide +kernel
theorem dX12_round_234 : decode cX12_round 234 = .ok (.iaload, 1) := by decide +kernel
theorem dX12_round_235 : decode cX12_round 235 = .ok (.iastore, 1) := by decide +kernel
theorem dX12_round_236 : decode cX12_round 236 = .ok (.iinc 3 1, 3) := by decide +kernel
theorem dX12_round_239 : decode cX12_round 239 = .ok (.goto (-24), 3) := by decide +kernel
theorem dX12_round_242 : decode cX12_round 242 = .ok (.iconst 0, 1) := by decide +kernel
theorem dX12_round_243 : decode cX12_round 243 = .ok (.istore_n 3, 1) := by decide +kernel
theorem dX12_round_244 : decode cX12_round 244 = .ok (.iload_n 3, 1) := by decide +kernel
theorem dX12_round_245 : decode cX12_round 245 = .ok (.aload_n 0, 1) := by decide +kernel
theorem dX12_round_246 : decode cX12_round 246 = .ok (.invokevirtual 68, 3) := by decide +kernel
theorem dX12_round_249 : decode cX12_round 249 = .ok (.if_icmp .ge 28, 3) := by decide +kernel
theorem dX12_round_252 : decode cX12_round 252 = .ok (.aload_n 0, 1) := by decide +kernel
theorem dX12_round_253 : decode cX12_round 253 = .ok (.getfield 7, 3) := by decide +kernel
theorem dX12_round_256 : decode cX12_round 256 = .ok (.bipush 127, 2) := by decide +kernel
theorem dX12_round_258 : decode cX12_round 258 = .ok (.iconst 4, 1) := by decide +kernel
theorem dX12_round_259 : decode cX12_round 259 = .ok (.iload_n 3, 1) := by decide +kernel
theorem dX12_round_260 : decode cX12_round 260 = .ok (.imul, 1) := by decide +kernel
theorem dX12_round_261 : decode cX12_round 261 = .ok (.iadd, 1) := by decide +kernel
theorem dX12_round_262 : decode cX12_round 262 = .ok (.iconst 2, 1) := by decide +kernel
theorem dX12_round_263 : decode cX12_round 263 = .ok (.iadd, 1) := by decide +kernel
theorem dX12_round_264 : decode cX12_round 264 = .ok (.aload_n 0, 1) := by decide +kernel
theorem dX12_round_265 : decode cX12_round 265 = .ok (.getfield 33, 3) := by decide +kernel
theorem dX12_round_268 : decode cX12_round 268 = .ok (.iload_n 3, 1) := by decide +kernel
theorem dX12_round_269 : decode cX12_round 269 = .ok (.iaload, 1) := by decide +kernel
theorem dX12_round_270 : decode cX12_round 270 = .ok (.iastore, 1) := by decide +kernel
theorem dX12_round_271 : decode cX12_round 271 = .ok (.iinc 3 1, 3) := by decide +kernel
theorem dX12_round_274 : decode cX12_round 274 = .ok (.goto (-30), 3) := by decide +kernel
theorem dX12_round_277 : decode cX12_round 277 = .ok (.aload_n 0, 1) := by decide +kernel
theorem dX12_round_278 : decode cX12_round 278 = .ok (.getfield 7, 3) := by decide +kernel
theorem dX12_round_281 : decode cX12_round 281 = .ok (.sipush 148, 3) := by decide +kernel
theorem dX12_round_284 : decode cX12_round 284 = .ok (.dup2, 1) := by decide +kernel
theorem dX12_round_285 : decode cX12_round 285 = .ok (.iaload, 1) := by decide +kernel
theorem dX12_round_286 : decode cX12_round 286 = .ok (.iconst 1, 1) := by decide +kernel
theorem dX12_round_287 : decode cX12_round 287 = .ok (.iadd, 1) := by decide +kernel
theorem dX12_round_288 : decode cX12_round 288 = .ok (.iastore, 1) := by decide +kernel
theorem dX12_round_289 : decode cX12_round 289 = .ok (.aload_n 0, 1) := by decide +kernel
theorem dX12_round_290 : decode cX12_round 290 = .ok (.getfield 7, 3) := by decide +kernel
theorem dX12_round_293 : decode cX12_round 293 = .ok (.sipush 149, 3) := by decide +kernel
theorem dX12_round_296 : decode cX12_round 296 = .ok (.dup2, 1) := by decide +kernel
theorem dX12_round_297 : decode cX12_round 297 = .ok (.iaload, 1) := by decide +kernel
theorem dX12_round_298 : decode cX12_round 298 = .ok (.iload_n 2, 1) := by decide +kernel
theorem dX12_round_299 : decode cX12_round 299 = .ok (.iadd, 1) := by decide +kernel
theorem dX12_round_300 : decode cX12_round 300 = .ok (.iastore, 1) := by decide +kernel
theorem dX12_round_301 : decode cX12_round 301 = .ok (.iload_n 2, 1) := by decide +kernel
theorem dX12_round_302 : decode cX12_round 302 = .ok (.ireturn, 1) := by decide +kernel
theorem dX12_undo_0 : decode cX12_undo 0 = .ok (.aload_n 0, 1) := by decide +kernel
theorem dX12_undo_1 : decode cX12_undo 1 = .ok (.getfield 7, 3) := by decide +kernel
theorem dX12_undo_4 : decode cX12_undo 4 = .ok (.sipush 150, 3) := by decide +kernel
theorem dX12_undo_7 : decode cX12_undo 7 = .ok (.iaload, 1) := by decide +kernel
theorem dX12_undo_8 : decode cX12_undo 8 = .ok (.ifCond .ne 8, 3) := by decide +kernel
theorem dX12_undo_11 : decode cX12_undo 11 = .ok (.aload_n 0, 1) := by decide +kernel
theorem dX12_undo_12 : decode cX12_undo 12 = .ok (.invokevirtual 137, 3) := by decide +kernel
theorem dX12_undo_15 : decode cX12_undo 15 = .ok (.ireturn, 1) := by decide +kernel
theorem dX12_undo_16 : decode cX12_undo 16 = .ok (.aload_n 0, 1) := by decide +kernel
theorem dX12_undo_17 : decode cX12_undo 17 = .ok (.getfield 7, 3) := by decide +kernel
theorem dX12_undo_20 : decode cX12_undo 20 = .ok (.sipush 150, 3) := by decide +kernel
theorem dX12_undo_23 : decode cX12_undo 23 = .ok (.dup2, 1) := by decide +kernel
theorem dX12_undo_24 : decode cX12_undo 24 = .ok (.iaload, 1) := by decide +kernel
theorem dX12_undo_25 : decode cX12_undo 25 = .ok (.iconst 1, 1) := by decide +kernel
theorem dX12_undo_26 : decode cX12_undo 26 = .ok (.isub, 1) := by decide +kernel
theorem dX12_undo_27 : decode cX12_undo 27 = .ok (.iastore, 1) := by decide +kernel
theorem dX12_undo_28 : decode cX12_undo 28 = .ok (.sipush 151, 3) := by decide +kernel
theorem dX12_undo_31 : decode cX12_undo 31 = .ok (.bipush 127, 2) := by decide +kernel
theorem dX12_undo_33 : decode cX12_undo 33 = .ok (.aload_n 0, 1) := by decide +kernel
theorem dX12_undo_34 : decode cX12_undo 34 = .ok (.getfield 7, 3) := by decide +kernel
theorem dX12_undo_37 : decode cX12_undo 37 = .ok (.sipush 150, 3) := by decide +kernel
theorem dX12_undo_40 : decode cX12_undo 40 = .ok (.iaload, 1) := by decide +kernel
theorem dX12_undo_41 : decode cX12_undo 41 = .ok (.imul, 1) := by decide +kernel
theorem dX12_undo_42 : decode cX12_undo 42 = .ok (.iadd, 1) := by decide +kernel
theorem dX12_undo_43 : decode cX12_undo 43 = .ok (.istore_n 1, 1) := by decide +kernel
theorem dX12_undo_44 : decode cX12_undo 44 = .ok (.iconst 0, 1) := by decide +kernel
theorem dX12_undo_45 : decode cX12_undo 45 = .ok (.istore_n 2, 1) := by decide +kernel
theorem dX12_undo_46 : decode cX12_undo 46 = .ok (.iload_n 2, 1) := by decide +kernel
theorem dX12_undo_47 : decode cX12_undo 47 = .ok (.bipush 120, 2) := by decide +kernel
theorem dX12_undo_49 : decode cX12_undo 49 = .ok (.if_icmp .ge 26, 3) := by decide +kernel
theorem dX12_undo_52 : decode cX12_undo 52 = .ok (.aload_n 0, 1) := by decide +kernel
theorem dX12_undo_53 : decode cX12_undo 53 = .ok (.getfield 7, 3) := by decide +kernel
theorem dX12_undo_56 : decode cX12_undo 56 = .ok (.bipush 6, 2) := by decide +kernel
theorem dX12_undo_58 : decode cX12_undo 58 = .ok (.iload_n 2, 1) := by decide +kernel
theorem dX12_undo_59 : decode cX12_undo 59 = .ok (.iadd, 1) := by decide +kernel
theorem dX12_undo_60 : decode cX12_undo 60 = .ok (.aload_n 0, 1) := by decide +kernel
theorem dX12_undo_61 : decode cX12_undo 61 = .ok (.getfield 7, 3) := by decide +kernel
theorem dX12_undo_64 : decode cX12_undo 64 = .ok (.iload_n 1, 1) := by decide +kernel
theorem dX12_undo_65 : decode cX12_undo 65 = .ok (.iload_n 2, 1) := by decide +kernel
theorem dX12_undo_66 : decode cX12_undo 66 = .ok (.iadd, 1) := by decide +kernel
theorem dX12_undo_67 : decode cX12_undo 67 = .ok (.iaload, 1) := by decide +kernel
theorem dX12_undo_68 : decode cX12_undo 68 = .ok (.iastore, 1) := by decide +kernel
theorem dX12_undo_69 : decode cX12_undo 69 = .ok (.iinc 2 1, 3) := by decide +kernel
theorem dX12_undo_72 : decode cX12_undo 72 = .ok (.goto (-26), 3) := by decide +kernel
theorem dX12_undo_75 : decode cX12_undo 75 = .ok (.iconst 0, 1) := by decide +kernel
theorem dX12_undo_76 : decode cX12_undo 76 = .ok (.istore_n 2, 1) := by decide +kernel
theorem dX12_undo_77 : decode cX12_undo 77 = .ok (.iload_n 2, 1) := by decide +kernel
theorem dX12_undo_78 : decode cX12_undo 78 = .ok (.aload_n 0, 1) := by decide +kernel
theorem dX12_undo_79 : decode cX12_undo 79 = .ok (.getfield 7, 3) := by decide +kernel
theorem dX12_undo_82 : decode cX12_undo 82 = .ok (.iload_n 1, 1) := by decide +kernel
theorem dX12_undo_83 : decode cX12_undo 83 = .ok (.bipush 126, 2) := by decide +kernel
theorem dX12_undo_85 : decode cX12_undo 85 = .ok (.iadd, 1) := by decide +kernel
theorem dX12_undo_86 : decode cX12_undo 86 = .ok (.iaload, 1) := by decide +kernel
theorem dX12_undo_87 : decode cX12_undo 87 = .ok (.if_icmp .ge 33, 3) := by decide +kernel
theorem dX12_undo_90 : decode cX12_undo 90 = .ok (.aload_n 0, 1) := by decide +kernel
theorem dX12_undo_91 : decode cX12_undo 91 = .ok (.getfield 7, 3) := by decide +kernel
theorem dX12_undo_94 : decode cX12_undo 94 = .ok (.bipush 127, 2) := by decide +kernel
theorem dX12_undo_96 : decode cX12_undo 96 = .ok (.iconst 4, 1) := by decide +kernel
theorem dX12_undo_97 : decode cX12_undo 97 = .ok (.iload_n 2, 1) := by decide +kernel
theorem dX12_undo_98 : decode cX12_undo 98 = .ok (.imul, 1) := by decide +kernel
theorem dX12_undo_99 : decode cX12_undo 99 = .ok (.iadd, 1) := by decide +kernel
theorem dX12_undo_100 : decode cX12_undo 100 = .ok (.iconst 2, 1) := by decide +kernel
theorem dX12_undo_101 : decode cX12_undo 101 = .ok (.iadd, 1) := by decide +kernel
theorem dX12_undo_102 : decode cX12_undo 102 = .ok (.aload_n 0, 1) := by decide +kernel
theorem dX12_undo_103 : decode cX12_undo 103 = .ok (.getfield 7, 3) := by decide +kernel
theorem dX12_undo_106 : decode cX12_undo 106 = .ok (.iload_n 1, 1) := by decide +kernel
theorem dX12_undo_107 : decode cX12_undo 107 = .ok (.bipush 120, 2) := by decide +kernel
theorem dX12_undo_109 : decode cX12_undo 109 = .ok (.iadd, 1) := by decide +kernel
theorem dX12_undo_110 : decode cX12_undo 110 = .ok (.iload_n 2, 1) := by decide +kernel
theorem dX12_undo_111 : decode cX12_undo 111 = .ok (.iadd, 1) := by decide +kernel
theorem dX12_undo_112 : decode cX12_undo 112 = .ok (.iaload, 1) := by decide +kernel
theorem dX12_undo_113 : decode cX12_undo 113 = .ok (.iastore, 1) := by decide +kernel
theorem dX12_undo_114 : decode cX12_undo 114 = .ok (.iinc 2 1, 3) := by decide +kernel
theorem dX12_undo_117 : decode cX12_undo 117 = .ok (.goto (-40), 3) := by decide +kernel
theorem dX12_undo_120 : decode cX12_undo 120 = .ok (.aload_n 0, 1) := by decide +kernel
theorem dX12_undo_121 : decode cX12_undo 121 = .ok (.getfield 7, 3) := by decide +kernel
theorem dX12_undo_124 : decode cX12_undo 124 = .ok (.sipush 148, 3) := by decide +kernel
theorem dX12_undo_127 : decode cX12_undo 127 = .ok (.aload_n 0, 1) := by decide +kernel
theorem dX12_undo_128 : decode cX12_undo 128 = .ok (.getfield 7, 3) := by decide +kernel
theorem dX12_undo_131 : decode cX12_undo 131 = .ok (.iload_n 1, 1) := by decide +kernel
theorem dX12_undo_132 : decode cX12_undo 132 = .ok (.bipush 124, 2) := by decide +kernel
theorem dX12_undo_134 : decode cX12_undo 134 = .ok (.iadd, 1) := by decide +kernel
theorem dX12_undo_135 : decode cX12_undo 135 = .ok (.iaload, 1) := by decide +kernel
theorem dX12_undo_136 : decode cX12_undo 136 = .ok (.iastore, 1) := by decide +kernel
theorem dX12_undo_137 : decode cX12_undo 137 = .ok (.aload_n 0, 1) := by decide +kernel
theorem dX12_undo_138 : decode cX12_undo 138 = .ok (.getfield 7, 3) := by decide +kernel
theorem dX12_undo_141 : decode cX12_undo 141 = .ok (.sipush 149, 3) := by decide +kernel
theorem dX12_undo_144 : decode cX12_undo 144 = .ok (.aload_n 0, 1) := by decide +kernel
theorem dX12_undo_145 : decode cX12_undo 145 = .ok (.getfield 7, 3) := by decide +kernel
theorem dX12_undo_148 : decode cX12_undo 148 = .ok (.iload_n 1, 1) := by decide +kernel
theorem dX12_undo_149 : decode cX12_undo 149 = .ok (.bipush 125, 2) := by decide +kernel
theorem dX12_undo_151 : decode cX12_undo 151 = .ok (.iadd, 1) := by decide +kernel
theorem dX12_undo_152 : decode cX12_undo 152 = .ok (.iaload, 1) := by decide +kernel
theorem dX12_undo_153 : decode cX12_undo 153 = .ok (.iastore, 1) := by decide +kernel
theorem dX12_undo_154 : decode cX12_undo 154 = .ok (.iconst 1, 1) := by decide +kernel
theorem dX12_undo_155 : decode cX12_undo 155 = .ok (.ireturn, 1) := by decide +kernel
theorem dX12_sumOf_0 : decode cX12_sumOf 0 = .ok (.iconst 0, 1) := by decide +kernel
theorem dX12_sumOf_1 : decode cX12_sumOf 1 = .ok (.istore_n 3, 1) := by decide +kernel
theorem dX12_sumOf_2 : decode cX12_sumOf 2 = .ok (.iconst 0, 1) := by decide +kernel
theorem dX12_sumOf_3 : decode cX12_sumOf 3 = .ok (.istore 4, 2) := by decide +kernel
theorem dX12_sumOf_5 : decode cX12_sumOf 5 = .ok (.iload 4, 2) := by decide +kernel
theorem dX12_sumOf_7 : decode cX12_sumOf 7 = .ok (.iload_n 2, 1) := by decide +kernel
theorem dX12_sumOf_8 : decode cX12_sumOf 8 = .ok (.if_icmp .ge 18, 3) := by decide +kernel
theorem dX12_sumOf_11 : decode cX12_sumOf 11 = .ok (.iload_n 3, 1) := by decide +kernel
theorem dX12_sumOf_12 : decode cX12_sumOf 12 = .ok (.aload_n 0, 1) := by decide +kernel
theorem dX12_sumOf_13 : decode cX12_sumOf 13 = .ok (.iload_n 1, 1) := by decide +kernel
theorem dX12_sumOf_14 : decode cX12_sumOf 14 = .ok (.iload 4, 2) := by decide +kernel
theorem dX12_sumOf_16 : decode cX12_sumOf 16 = .ok (.iadd, 1) := by decide +kernel
theorem dX12_sumOf_17 : decode cX12_sumOf 17 = .ok (.iaload, 1) := by decide +kernel
theorem dX12_sumOf_18 : decode cX12_sumOf 18 = .ok (.iadd, 1) := by decide +kernel
theorem dX12_sumOf_19 : decode cX12_sumOf 19 = .ok (.istore_n 3, 1) := by decide +kernel
theorem dX12_sumOf_20 : decode cX12_sumOf 20 = .ok (.iinc 4 1, 3) := by decide +kernel
theorem dX12_sumOf_23 : decode cX12_sumOf 23 = .ok (.goto (-18), 3) := by decide +kernel
theorem dX12_sumOf_26 : decode cX12_sumOf 26 = .ok (.iload_n 3, 1) := by decide +kernel
theorem dX12_sumOf_27 : decode cX12_sumOf 27 = .ok (.ireturn, 1) := by decide +kernel
theorem dX12_there_0 : decode cX12_there 0 = .ok (.iload_n 1, 1) := by decide +kernel
theorem dX12_there_1 : decode cX12_there 1 = .ok (.invokestatic 77, 3) := by decide +kernel
theorem dX12_there_4 : decode cX12_there 4 = .ok (.ifCond .eq 16, 3) := by decide +kernel
theorem dX12_there_7 : decode cX12_there 7 = .ok (.iload_n 2, 1) := by decide +kernel
theorem dX12_there_8 : decode cX12_there 8 = .ok (.iconst (-1), 1) := by decide +kernel
theorem dX12_there_9 : decode cX12_there 9 = .ok (.if_icmp .eq 18, 3) := by decide +kernel
theorem dX12_there_12 : decode cX12_there 12 = .ok (.aload_n 0, 1) := by decide +kernel
theorem dX12_there_13 : decode cX12_there 13 = .ok (.iload_n 2, 1) := by decide +kernel
theorem dX12_there_14 : decode cX12_there 14 = .ok (.invokevirtual 83, 3) := by decide +kernel
theorem dX12_there_17 : decode cX12_there 17 = .ok (.ifCond .ne 10, 3) := by decide +kernel
theorem dX12_there_20 : decode cX12_there 20 = .ok (.aload_n 0, 1) := by decide +kernel
theorem dX12_there_21 : decode cX12_there 21 = .ok (.bipush (-10), 2) := by decide +kernel
theorem dX12_there_23 : decode cX12_there 23 = .ok (.invokevirtual 73, 3) := by decide +kernel
theorem dX12_there_26 : decode cX12_there 26 = .ok (.ireturn, 1) := by decide +kernel
theorem dX12_there_27 : decode cX12_there 27 = .ok (.iload_n 2, 1) := by decide +kernel
theorem dX12_there_28 : decode cX12_there 28 = .ok (.iconst (-1), 1) := by decide +kernel
theorem dX12_there_29 : decode cX12_there 29 = .ok (.if_icmp .ne 24, 3) := by decide +kernel
theorem dX12_there_32 : decode cX12_there 32 = .ok (.aload_n 0, 1) := by decide +kernel
theorem dX12_there_33 : decode cX12_there 33 = .ok (.getfield 7, 3) := by decide +kernel
theorem dX12_there_36 : decode cX12_there 36 = .ok (.bipush 6, 2) := by decide +kernel
theorem dX12_there_38 : decode cX12_there 38 = .ok (.bipush 24, 2) := by decide +kernel
theorem dX12_there_40 : decode cX12_there 40 = .ok (.iload_n 1, 1) := by decide +kernel
theorem dX12_there_41 : decode cX12_there 41 = .ok (.imul, 1) := by decide +kernel
theorem dX12_there_42 : decode cX12_there 42 = .ok (.iadd, 1) := by decide +kernel
theorem dX12_there_43 : decode cX12_there 43 = .ok (.aload_n 0, 1) := by decide +kernel
theorem dX12_there_44 : decode cX12_there 44 = .ok (.invokevirtual 64, 3) := by decide +kernel
theorem dX12_there_47 : decode cX12_there 47 = .ok (.invokestatic 140, 3) := by decide +kernel
theorem dX12_there_50 : decode cX12_there 50 = .ok (.goto 17, 3) := by decide +kernel
theorem dX12_there_53 : decode cX12_there 53 = .ok (.aload_n 0, 1) := by decide +kernel
theorem dX12_there_54 : decode cX12_there 54 = .ok (.getfield 7, 3) := by decide +kernel
theorem dX12_there_57 : decode cX12_there 57 = .ok (.bipush 6, 2) := by decide +kernel
theorem dX12_there_59 : decode cX12_there 59 = .ok (.bipush 24, 2) := by decide +kernel
theorem dX12_there_61 : decode cX12_there 61 = .ok (.iload_n 1, 1) := by decide +kernel
theorem dX12_there_62 : decode cX12_there 62 = .ok (.imul, 1) := by decide +kernel
theorem dX12_there_63 : decode cX12_there 63 = .ok (.iadd, 1) := by decide +kernel
theorem dX12_there_64 : decode cX12_there 64 = .ok (.iload_n 2, 1) := by decide +kernel
theorem dX12_there_65 : decode cX12_there 65 = .ok (.iadd, 1) := by decide +kernel
theorem dX12_there_66 : decode cX12_there 66 = .ok (.iaload, 1) := by decide +kernel
theorem dX12_there_67 : decode cX12_there 67 = .ok (.ireturn, 1) := by decide +kernel
theorem dX12_about_0 : decode cX12_about 0 = .ok (.aload_n 0, 1) := by decide +kernel
theorem dX12_about_1 : decode cX12_about 1 = .ok (.iload_n 1, 1) := by decide +kernel
theorem dX12_about_2 : decode cX12_about 2 = .ok (.invokevirtual 144, 3) := by decide +kernel
theorem dX12_about_5 : decode cX12_about 5 = .ok (.ifCond .eq 24, 3) := by decide +kernel
theorem dX12_about_8 : decode cX12_about 8 = .ok (.iload_n 2, 1) := by decide +kernel
theorem dX12_about_9 : decode cX12_about 9 = .ok (.i2l, 1) := by decide +kernel
theorem dX12_about_10 : decode cX12_about 10 = .ok (.lconst 0, 1) := by decide +kernel
theorem dX12_about_11 : decode cX12_about 11 = .ok (.ldc2_w 147, 3) := by decide +kernel
theorem dX12_about_14 : decode cX12_about 14 = .ok (.invokestatic 60, 3) := by decide +kernel
theorem dX12_about_17 : decode cX12_about 17 = .ok (.ifCond .eq 12, 3) := by decide +kernel
theorem dX12_about_20 : decode cX12_about 20 = .ok (.aload_n 0, 1) := by decide +kernel
theorem dX12_about_21 : decode cX12_about 21 = .ok (.iload_n 1, 1) := by decide +kernel
theorem dX12_about_22 : decode cX12_about 22 = .ok (.iload_n 2, 1) := by decide +kernel
theorem dX12_about_23 : decode cX12_about 23 = .ok (.invokevirtual 97, 3) := by decide +kernel
theorem dX12_about_26 : decode cX12_about 26 = .ok (.goto 9, 3) := by decide +kernel
theorem dX12_about_29 : decode cX12_about 29 = .ok (.aload_n 0, 1) := by decide +kernel
theorem dX12_about_30 : decode cX12_about 30 = .ok (.bipush (-2), 2) := by decide +kernel
theorem dX12_about_32 : decode cX12_about 32 = .ok (.invokevirtual 73, 3) := by decide +kernel
theorem dX12_about_35 : decode cX12_about 35 = .ok (.ireturn, 1) := by decide +kernel
theorem dX12_goOne_0 : decode cX12_goOne 0 = .ok (.aload_n 0, 1) := by decide +kernel
theorem dX12_goOne_1 : decode cX12_goOne 1 = .ok (.aload_n 0, 1) := by decide +kernel
theorem dX12_goOne_2 : decode cX12_goOne 2 = .ok (.getfield 149, 3) := by decide +kernel
theorem dX12_goOne_5 : decode cX12_goOne 5 = .ok (.aload_n 0, 1) := by decide +kernel
theorem dX12_goOne_6 : decode cX12_goOne 6 = .ok (.getfield 7, 3) := by decide +kernel
theorem dX12_goOne_9 : decode cX12_goOne 9 = .ok (.iconst 1, 1) := by decide +kernel
theorem dX12_goOne_10 : decode cX12_goOne 10 = .ok (.aload_n 0, 1) := by decide +kernel
theorem dX12_goOne_11 : decode cX12_goOne 11 = .ok (.getfield 152, 3) := by decide +kernel
theorem dX12_goOne_14 : decode cX12_goOne 14 = .ok (.iadd, 1) := by decide +kernel
theorem dX12_goOne_15 : decode cX12_goOne 15 = .ok (.iaload, 1) := by decide +kernel
theorem dX12_goOne_16 : decode cX12_goOne 16 = .ok (.iadd, 1) := by decide +kernel
theorem dX12_goOne_17 : decode cX12_goOne 17 = .ok (.aload_n 0, 1) := by decide +kernel
theorem dX12_goOne_18 : decode cX12_goOne 18 = .ok (.invokevirtual 64, 3) := by decide +kernel
theorem dX12_goOne_21 : decode cX12_goOne 21 = .ok (.irem, 1) := by decide +kernel
theorem dX12_goOne_22 : decode cX12_goOne 22 = .ok (.putfield 149, 3) := by decide +kernel
theorem dX12_goOne_25 : decode cX12_goOne 25 = .ok (.aload_n 0, 1) := by decide +kernel
theorem dX12_goOne_26 : decode cX12_goOne 26 = .ok (.invokevirtual 118, 3) := by decide +kernel
theorem dX12_goOne_29 : decode cX12_goOne 29 = .ok (.iconst 0, 1) := by decide +kernel
theorem dX12_goOne_30 : decode cX12_goOne 30 = .ok (.istore_n 1, 1) := by decide +kernel
theorem dX12_goOne_31 : decode cX12_goOne 31 = .ok (.iload_n 1, 1) := by decide +kernel
theorem dX12_goOne_32 : decode cX12_goOne 32 = .ok (.aload_n 0, 1) := by decide +kernel
theorem dX12_goOne_33 : decode cX12_goOne 33 = .ok (.invokevirtual 68, 3) := by decide +kernel
theorem dX12_goOne_36 : decode cX12_goOne 36 = .ok (.if_icmp .ge 74, 3) := by decide +kernel
theorem dX12_goOne_39 : decode cX12_goOne 39 = .ok (.aload_n 0, 1) := by decide +kernel
theorem dX12_goOne_40 : decode cX12_goOne 40 = .ok (.getfield 152, 3) := by decide +kernel
theorem dX12_goOne_43 : decode cX12_goOne 43 = .ok (.invokestatic 77, 3) := by decide +kernel
theorem dX12_goOne_46 : decode cX12_goOne 46 = .ok (.ifCond .eq 64, 3) := by decide +kernel
theorem dX12_goOne_49 : decode cX12_goOne 49 = .ok (.aload_n 0, 1) := by decide +kernel
theorem dX12_goOne_50 : decode cX12_goOne 50 = .ok (.iload_n 1, 1) := by decide +kernel
theorem dX12_goOne_51 : decode cX12_goOne 51 = .ok (.invokevirtual 121, 3) := by decide +kernel
theorem dX12_goOne_54 : decode cX12_goOne 54 = .ok (.ifCond .eq 50, 3) := by decide +kernel
theorem dX12_goOne_57 : decode cX12_goOne 57 = .ok (.aload_n 0, 1) := by decide +kernel
theorem dX12_goOne_58 : decode cX12_goOne 58 = .ok (.iload_n 1, 1) := by decide +kernel
theorem dX12_goOne_59 : decode cX12_goOne 59 = .ok (.aload_n 0, 1) := by decide +kernel
theorem dX12_goOne_60 : decode cX12_goOne 60 = .ok (.getfield 149, 3) := by decide +kernel
theorem dX12_goOne_63 : decode cX12_goOne 63 = .ok (.invokevirtual 108, 3) := by decide +kernel
theorem dX12_goOne_66 : decode cX12_goOne 66 = .ok (.ifCond .eq 38, 3) := by decide +kernel
theorem dX12_goOne_69 : decode cX12_goOne 69 = .ok (.aload_n 0, 1) := by decide +kernel
theorem dX12_goOne_70 : decode cX12_goOne 70 = .ok (.iload_n 1, 1) := by decide +kernel
theorem dX12_goOne_71 : decode cX12_goOne 71 = .ok (.aload_n 0, 1) := by decide +kernel
theorem dX12_goOne_72 : decode cX12_goOne 72 = .ok (.getfield 152, 3) := by decide +kernel
theorem dX12_goOne_75 : decode cX12_goOne 75 = .ok (.invokevirtual 112, 3) := by decide +kernel
theorem dX12_goOne_78 : decode cX12_goOne 78 = .ok (.ifCond .eq 26, 3) := by decide +kernel
theorem dX12_goOne_81 : decode cX12_goOne 81 = .ok (.aload_n 0, 1) := by decide +kernel
theorem dX12_goOne_82 : decode cX12_goOne 82 = .ok (.aload_n 0, 1) := by decide +kernel
theorem dX12_goOne_83 : decode cX12_goOne 83 = .ok (.iload_n 1, 1) := by decide +kernel
theorem dX12_goOne_84 : decode cX12_goOne 84 = .ok (.aload_n 0, 1) := by decide +kernel
theorem dX12_goOne_85 : decode cX12_goOne 85 = .ok (.getfield 152, 3) := by decide +kernel
theorem dX12_goOne_88 : decode cX12_goOne 88 = .ok (.invokevirtual 115, 3) := by decide +kernel
theorem dX12_goOne_91 : decode cX12_goOne 91 = .ok (.putfield 152, 3) := by decide +kernel
theorem dX12_goOne_94 : decode cX12_goOne 94 = .ok (.aload_n 0, 1) := by decide +kernel
theorem dX12_goOne_95 : decode cX12_goOne 95 = .ok (.dup, 1) := by decide +kernel
theorem dX12_goOne_96 : decode cX12_goOne 96 = .ok (.getfield 155, 3) := by decide +kernel
theorem dX12_goOne_99 : decode cX12_goOne 99 = .ok (.iconst 1, 1) := by decide +kernel
theorem dX12_goOne_100 : decode cX12_goOne 100 = .ok (.iadd, 1) := by decide +kernel
theorem dX12_goOne_101 : decode cX12_goOne 101 = .ok (.putfield 155, 3) := by decide +kernel
theorem dX12_goOne_104 : decode cX12_goOne 104 = .ok (.iinc 1 1, 3) := by decide +kernel
theorem dX12_goOne_107 : decode cX12_goOne 107 = .ok (.goto (-76), 3) := by decide +kernel
theorem dX12_goOne_110 : decode cX12_goOne 110 = .ok (.return_, 1) := by decide +kernel
theorem dX12_goOneOn_0 : decode cX12_goOneOn 0 = .ok (.aload_n 0, 1) := by decide +kernel
theorem dX12_goOneOn_1 : decode cX12_goOneOn 1 = .ok (.iload_n 1, 1) := by decide +kernel
theorem dX12_goOneOn_2 : decode cX12_goOneOn 2 = .ok (.putfield 152, 3) := by decide +kernel
theorem dX12_goOneOn_5 : decode cX12_goOneOn 5 = .ok (.aload_n 0, 1) := by decide +kernel
theorem dX12_goOneOn_6 : decode cX12_goOneOn 6 = .ok (.iload_n 2, 1) := by decide +kernel
theorem dX12_goOneOn_7 : decode cX12_goOneOn 7 = .ok (.putfield 149, 3) := by decide +kernel
theorem dX12_goOneOn_10 : decode cX12_goOneOn 10 = .ok (.aload_n 0, 1) := by decide +kernel
theorem dX12_goOneOn_11 : decode cX12_goOneOn 11 = .ok (.iconst 0, 1) := by decide +kernel
theorem dX12_goOneOn_12 : decode cX12_goOneOn 12 = .ok (.putfield 155, 3) := by decide +kernel
theorem dX12_goOneOn_15 : decode cX12_goOneOn 15 = .ok (.aload_n 0, 1) := by decide +kernel
theorem dX12_goOneOn_16 : decode cX12_goOneOn 16 = .ok (.aload_n 0, 1) := by decide +kernel
theorem dX12_goOneOn_17 : decode cX12_goOneOn 17 = .ok (.invokevirtual 127, 3) := by decide +kernel
theorem dX12_goOneOn_20 : decode cX12_goOneOn 20 = .ok (.invokevirtual 130, 3) := by decide +kernel
theorem dX12_goOneOn_23 : decode cX12_goOneOn 23 = .ok (.iconst 0, 1) := by decide +kernel
theorem dX12_goOneOn_24 : decode cX12_goOneOn 24 = .ok (.istore 4, 2) := by decide +kernel
theorem dX12_goOneOn_26 : decode cX12_goOneOn 26 = .ok (.iload 4, 2) := by decide +kernel
theorem dX12_goOneOn_28 : decode cX12_goOneOn 28 = .ok (.iload_n 3, 1) := by decide +kernel
theorem dX12_goOneOn_29 : decode cX12_goOneOn 29 = .ok (.if_icmp .ge 23, 3) := by decide +kernel
theorem dX12_goOneOn_32 : decode cX12_goOneOn 32 = .ok (.aload_n 0, 1) := by decide +kernel
theorem dX12_goOneOn_33 : decode cX12_goOneOn 33 = .ok (.getfield 152, 3) := by decide +kernel
theorem dX12_goOneOn_36 : decode cX12_goOneOn 36 = .ok (.invokestatic 77, 3) := by decide +kernel
theorem dX12_goOneOn_39 : decode cX12_goOneOn 39 = .ok (.ifCond .eq 13, 3) := by decide +kernel
theorem dX12_goOneOn_42 : decode cX12_goOneOn 42 = .ok (.aload_n 0, 1) := by decide +kernel
theorem dX12_goOneOn_43 : decode cX12_goOneOn 43 = .ok (.invokevirtual 158, 3) := by decide +kernel
theorem dX12_goOneOn_46 : decode cX12_goOneOn 46 = .ok (.iinc 4 1, 3) := by decide +kernel
theorem dX12_goOneOn_49 : decode cX12_goOneOn 49 = .ok (.goto (-23), 3) := by decide +kernel
theorem dX12_goOneOn_52 : decode cX12_goOneOn 52 = .ok (.return_, 1) := by decide +kernel
theorem dX12_isLong_0 : decode cX12_isLong 0 = .ok (.iload_n 0, 1) := by decide +kernel
theorem dX12_isLong_1 : decode cX12_isLong 1 = .ok (.i2l, 1) := by decide +kernel
theorem dX12_isLong_2 : decode cX12_isLong 2 = .ok (.lconst 0, 1) := by decide +kernel
theorem dX12_isLong_3 : decode cX12_isLong 3 = .ok (.ldc2_w 161, 3) := by decide +kernel
theorem dX12_isLong_6 : decode cX12_isLong 6 = .ok (.invokestatic 60, 3) := by decide +kernel
theorem dX12_isLong_9 : decode cX12_isLong 9 = .ok (.ireturn, 1) := by decide +kernel
theorem dX12_where_0 : decode cX12_where 0 = .ok (.iload_n 1, 1) := by decide +kernel
theorem dX12_where_1 : decode cX12_where 1 = .ok (.invokestatic 77, 3) := by decide +kernel
theorem dX12_where_4 : decode cX12_where 4 = .ok (.ifCond .eq 31, 3) := by decide +kernel
theorem dX12_where_7 : decode cX12_where 7 = .ok (.aload_n 0, 1) := by decide +kernel
theorem dX12_where_8 : decode cX12_where 8 = .ok (.iload_n 2, 1) := by decide +kernel
theorem dX12_where_9 : decode cX12_where 9 = .ok (.invokevirtual 83, 3) := by decide +kernel
theorem dX12_where_12 : decode cX12_where 12 = .ok (.ifCond .eq 23, 3) := by decide +kernel
theorem dX12_where_15 : decode cX12_where 15 = .ok (.iload_n 3, 1) := by decide +kernel
theorem dX12_where_16 : decode cX12_where 16 = .ok (.invokestatic 163, 3) := by decide +kernel
theorem dX12_where_19 : decode cX12_where 19 = .ok (.ifCond .eq 16, 3) := by decide +kernel
theorem dX12_where_22 : decode cX12_where 22 = .ok (.iload 4, 2) := by decide +kernel
theorem dX12_where_24 : decode cX12_where 24 = .ok (.i2l, 1) := by decide +kernel
theorem dX12_where_25 : decode cX12_where 25 = .ok (.lconst 0, 1) := by decide +kernel
theorem dX12_where_26 : decode cX12_where 26 = .ok (.ldc2_w 166, 3) := by decide +kernel
theorem dX12_where_29 : decode cX12_where 29 = .ok (.invokestatic 60, 3) := by decide +kernel
theorem dX12_where_32 : decode cX12_where 32 = .ok (.ifCond .ne 10, 3) := by decide +kernel
theorem dX12_where_35 : decode cX12_where 35 = .ok (.aload_n 0, 1) := by decide +kernel
theorem dX12_where_36 : decode cX12_where 36 = .ok (.bipush (-10), 2) := by decide +kernel
theorem dX12_where_38 : decode cX12_where 38 = .ok (.invokevirtual 73, 3) := by decide +kernel
theorem dX12_where_41 : decode cX12_where 41 = .ok (.ireturn, 1) := by decide +kernel
theorem dX12_where_42 : decode cX12_where 42 = .ok (.aload_n 0, 1) := by decide +kernel
theorem dX12_where_43 : decode cX12_where 43 = .ok (.iload_n 1, 1) := by decide +kernel
theorem dX12_where_44 : decode cX12_where 44 = .ok (.iload_n 2, 1) := by decide +kernel
theorem dX12_where_45 : decode cX12_where 45 = .ok (.iload_n 3, 1) := by decide +kernel
theorem dX12_where_46 : decode cX12_where 46 = .ok (.invokevirtual 168, 3) := by decide +kernel
theorem dX12_where_49 : decode cX12_where 49 = .ok (.iload 4, 2) := by decide +kernel
theorem dX12_where_51 : decode cX12_where 51 = .ok (.ifCond .ne 24, 3) := by decide +kernel
theorem dX12_where_54 : decode cX12_where 54 = .ok (.aload_n 0, 1) := by decide +kernel
theorem dX12_where_55 : decode cX12_where 55 = .ok (.getfield 152, 3) := by decide +kernel
theorem dX12_where_58 : decode cX12_where 58 = .ok (.invokestatic 77, 3) := by decide +kernel
theorem dX12_where_61 : decode cX12_where 61 = .ok (.ifCond .eq 10, 3) := by decide +kernel
theorem dX12_where_64 : decode cX12_where 64 = .ok (.aload_n 0, 1) := by decide +kernel
theorem dX12_where_65 : decode cX12_where 65 = .ok (.getfield 152, 3) := by decide +kernel
theorem dX12_where_68 : decode cX12_where 68 = .ok (.goto 24, 3) := by decide +kernel
theorem dX12_where_71 : decode cX12_where 71 = .ok (.iconst (-1), 1) := by decide +kernel
theorem dX12_where_72 : decode cX12_where 72 = .ok (.goto 20, 3) := by decide +kernel
theorem dX12_where_75 : decode cX12_where 75 = .ok (.iload 4, 2) := by decide +kernel
theorem dX12_where_77 : decode cX12_where 77 = .ok (.iconst 1, 1) := by decide +kernel
theorem dX12_where_78 : decode cX12_where 78 = .ok (.if_icmp .ne 10, 3) := by decide +kernel
theorem dX12_where_81 : decode cX12_where 81 = .ok (.aload_n 0, 1) := by decide +kernel
theorem dX12_where_82 : decode cX12_where 82 = .ok (.getfield 149, 3) := by decide +kernel
theorem dX12_where_85 : decode cX12_where 85 = .ok (.goto 7, 3) := by decide +kernel
theorem dX12_where_88 : decode cX12_where 88 = .ok (.aload_n 0, 1) := by decide +kernel
theorem dX12_where_89 : decode cX12_where 89 = .ok (.getfield 155, 3) := by decide +kernel
theorem dX12_where_92 : decode cX12_where 92 = .ok (.ireturn, 1) := by decide +kernel
theorem dX12_lossOf_0 : decode cX12_lossOf 0 = .ok (.aload_n 0, 1) := by decide +kernel
theorem dX12_lossOf_1 : decode cX12_lossOf 1 = .ok (.iload_n 2, 1) := by decide +kernel
theorem dX12_lossOf_2 : decode cX12_lossOf 2 = .ok (.invokevirtual 130, 3) := by decide +kernel
theorem dX12_lossOf_5 : decode cX12_lossOf 5 = .ok (.iconst 0, 1) := by decide +kernel
theorem dX12_lossOf_6 : decode cX12_lossOf 6 = .ok (.istore_n 3, 1) := by decide +kernel
theorem dX12_lossOf_7 : decode cX12_lossOf 7 = .ok (.iconst 0, 1) := by decide +kernel
theorem dX12_lossOf_8 : decode cX12_lossOf 8 = .ok (.istore 4, 2) := by decide +kernel
theorem dX12_lossOf_10 : decode cX12_lossOf 10 = .ok (.iload 4, 2) := by decide +kernel
theorem dX12_lossOf_12 : decode cX12_lossOf 12 = .ok (.iload_n 1, 1) := by decide +kernel
theorem dX12_lossOf_13 : decode cX12_lossOf 13 = .ok (.if_icmp .ge 16, 3) := by decide +kernel
theorem dX12_lossOf_16 : decode cX12_lossOf 16 = .ok (.iload_n 3, 1) := by decide +kernel
theorem dX12_lossOf_17 : decode cX12_lossOf 17 = .ok (.aload_n 0, 1) := by decide +kernel
theorem dX12_lossOf_18 : decode cX12_lossOf 18 = .ok (.invokevirtual 134, 3) := by decide +kernel
theorem dX12_lossOf_21 : decode cX12_lossOf 21 = .ok (.iadd, 1) := by decide +kernel
theorem dX12_lossOf_22 : decode cX12_lossOf 22 = .ok (.istore_n 3, 1) := by decide +kernel
theorem dX12_lossOf_23 : decode cX12_lossOf 23 = .ok (.iinc 4 1, 3) := by decide +kernel
theorem dX12_lossOf_26 : decode cX12_lossOf 26 = .ok (.goto (-16), 3) := by decide +kernel
theorem dX12_lossOf_29 : decode cX12_lossOf 29 = .ok (.iload_n 3, 1) := by decide +kernel
theorem dX12_lossOf_30 : decode cX12_lossOf 30 = .ok (.ireturn, 1) := by decide +kernel
theorem dX12_loss_0 : decode cX12_loss 0 = .ok (.iload_n 1, 1) := by decide +kernel
theorem dX12_loss_1 : decode cX12_loss 1 = .ok (.invokestatic 163, 3) := by decide +kernel
theorem dX12_loss_4 : decode cX12_loss 4 = .ok (.ifCond .eq 15, 3) := by decide +kernel
theorem dX12_loss_7 : decode cX12_loss 7 = .ok (.aload_n 0, 1) := by decide +kernel
theorem dX12_loss_8 : decode cX12_loss 8 = .ok (.iload_n 1, 1) := by decide +kernel
theorem dX12_loss_9 : decode cX12_loss 9 = .ok (.aload_n 0, 1) := by decide +kernel
theorem dX12_loss_10 : decode cX12_loss 10 = .ok (.invokevirtual 127, 3) := by decide +kernel
theorem dX12_loss_13 : decode cX12_loss 13 = .ok (.invokevirtual 172, 3) := by decide +kernel
theorem dX12_loss_16 : decode cX12_loss 16 = .ok (.goto 9, 3) := by decide +kernel
theorem dX12_loss_19 : decode cX12_loss 19 = .ok (.aload_n 0, 1) := by decide +kernel
theorem dX12_loss_20 : decode cX12_loss 20 = .ok (.bipush (-2), 2) := by decide +kernel
theorem dX12_loss_22 : decode cX12_loss 22 = .ok (.invokevirtual 73, 3) := by decide +kernel
theorem dX12_loss_25 : decode cX12_loss 25 = .ok (.ireturn, 1) := by decide +kernel
theorem dX12_behind_0 : decode cX12_behind 0 = .ok (.iconst 0, 1) := by decide +kernel
theorem dX12_behind_1 : decode cX12_behind 1 = .ok (.istore 4, 2) := by decide +kernel
theorem dX12_behind_3 : decode cX12_behind 3 = .ok (.iload 4, 2) := by decide +kernel
theorem dX12_behind_5 : decode cX12_behind 5 = .ok (.aload_n 0, 1) := by decide +kernel
theorem dX12_behind_6 : decode cX12_behind 6 = .ok (.invokevirtual 68, 3) := by decide +kernel
theorem dX12_behind_9 : decode cX12_behind 9 = .ok (.if_icmp .ge 38, 3) := by decide +kernel
theorem dX12_behind_12 : decode cX12_behind 12 = .ok (.aload_n 0, 1) := by decide +kernel
theorem dX12_behind_13 : decode cX12_behind 13 = .ok (.getfield 33, 3) := by decide +kernel
theorem dX12_behind_16 : decode cX12_behind 16 = .ok (.iload 4, 2) := by decide +kernel
theorem dX12_behind_18 : decode cX12_behind 18 = .ok (.aload_n 0, 1) := by decide +kernel
theorem dX12_behind_19 : decode cX12_behind 19 = .ok (.iload 4, 2) := by decide +kernel
theorem dX12_behind_21 : decode cX12_behind 21 = .ok (.iconst 2, 1) := by decide +kernel
theorem dX12_behind_22 : decode cX12_behind 22 = .ok (.invokevirtual 97, 3) := by decide +kernel
theorem dX12_behind_25 : decode cX12_behind 25 = .ok (.iload_n 1, 1) := by decide +kernel
theorem dX12_behind_26 : decode cX12_behind 26 = .ok (.aload_n 0, 1) := by decide +kernel
theorem dX12_behind_27 : decode cX12_behind 27 = .ok (.iload 4, 2) := by decide +kernel
theorem dX12_behind_29 : decode cX12_behind 29 = .ok (.iconst 3, 1) := by decide +kernel
theorem dX12_behind_30 : decode cX12_behind 30 = .ok (.invokevirtual 97, 3) := by decide +kernel
theorem dX12_behind_33 : decode cX12_behind 33 = .ok (.imul, 1) := by decide +kernel
theorem dX12_behind_34 : decode cX12_behind 34 = .ok (.iadd, 1) := by decide +kernel
theorem dX12_behind_35 : decode cX12_behind 35 = .ok (.aload_n 0, 1) := by decide +kernel
theorem dX12_behind_36 : decode cX12_behind 36 = .ok (.invokevirtual 64, 3) := by decide +kernel
theorem dX12_behind_39 : decode cX12_behind 39 = .ok (.irem, 1) := by decide +kernel
theorem dX12_behind_40 : decode cX12_behind 40 = .ok (.iastore, 1) := by decide +kernel
theorem dX12_behind_41 : decode cX12_behind 41 = .ok (.iinc 4 1, 3) := by decide +kernel
theorem dX12_behind_44 : decode cX12_behind 44 = .ok (.goto (-41), 3) := by decide +kernel
theorem dX12_behind_47 : decode cX12_behind 47 = .ok (.aload_n 0, 1) := by decide +kernel
theorem dX12_behind_48 : decode cX12_behind 48 = .ok (.aload_n 0, 1) := by decide +kernel
theorem dX12_behind_49 : decode cX12_behind 49 = .ok (.getfield 7, 3) := by decide +kernel
theorem dX12_behind_52 : decode cX12_behind 52 = .ok (.sipush 148, 3) := by decide +kernel
theorem dX12_behind_55 : decode cX12_behind 55 = .ok (.iaload, 1) := by decide +kernel
theorem dX12_behind_56 : decode cX12_behind 56 = .ok (.iload_n 1, 1) := by decide +kernel
theorem dX12_behind_57 : decode cX12_behind 57 = .ok (.iadd, 1) := by decide +kernel
theorem dX12_behind_58 : decode cX12_behind 58 = .ok (.putfield 101, 3) := by decide +kernel
theorem dX12_behind_61 : decode cX12_behind 61 = .ok (.aload_n 0, 1) := by decide +kernel
theorem dX12_behind_62 : decode cX12_behind 62 = .ok (.iload_n 2, 1) := by decide +kernel
theorem dX12_behind_63 : decode cX12_behind 63 = .ok (.putfield 152, 3) := by decide +kernel
theorem dX12_behind_66 : decode cX12_behind 66 = .ok (.aload_n 0, 1) := by decide +kernel
theorem dX12_behind_67 : decode cX12_behind 67 = .ok (.iload_n 3, 1) := by decide +kernel
theorem dX12_behind_68 : decode cX12_behind 68 = .ok (.putfield 149, 3) := by decide +kernel
theorem dX12_behind_71 : decode cX12_behind 71 = .ok (.aload_n 0, 1) := by decide +kernel
theorem dX12_behind_72 : decode cX12_behind 72 = .ok (.invokevirtual 158, 3) := by decide +kernel
theorem dX12_behind_75 : decode cX12_behind 75 = .ok (.aload_n 0, 1) := by decide +kernel
theorem dX12_behind_76 : decode cX12_behind 76 = .ok (.getfield 152, 3) := by decide +kernel
theorem dX12_behind_79 : decode cX12_behind 79 = .ok (.invokestatic 77, 3) := by decide +kernel
theorem dX12_behind_82 : decode cX12_behind 82 = .ok (.ifCond .eq 18, 3) := by decide +kernel
theorem dX12_behind_85 : decode cX12_behind 85 = .ok (.bipush 24, 2) := by decide +kernel
theorem dX12_behind_87 : decode cX12_behind 87 = .ok (.aload_n 0, 1) := by decide +kernel
theorem dX12_behind_88 : decode cX12_behind 88 = .ok (.getfield 152, 3) := by decide +kernel
theorem dX12_behind_91 : decode cX12_behind 91 = .ok (.imul, 1) := by decide +kernel
theorem dX12_behind_92 : decode cX12_behind 92 = .ok (.aload_n 0, 1) := by decide +kernel
theorem dX12_behind_93 : decode cX12_behind 93 = .ok (.getfield 149, 3) := by decide +kernel
theorem dX12_behind_96 : decode cX12_behind 96 = .ok (.iadd, 1) := by decide +kernel
theorem dX12_behind_97 : decode cX12_behind 97 = .ok (.goto 4, 3) := by decide +kernel
theorem dX12_behind_100 : decode cX12_behind 100 = .ok (.iconst (-1), 1) := by decide +kernel
theorem dX12_behind_101 : decode cX12_behind 101 = .ok (.ireturn, 1) := by decide +kernel
theorem dX12_pushes_0 : decode cX12_pushes 0 = .ok (.iload_n 1, 1) := by decide +kernel
theorem dX12_pushes_1 : decode cX12_pushes 1 = .ok (.i2l, 1) := by decide +kernel
theorem dX12_pushes_2 : decode cX12_pushes 2 = .ok (.lconst 0, 1) := by decide +kernel
theorem dX12_pushes_3 : decode cX12_pushes 3 = .ok (.ldc2_w 175, 3) := by decide +kernel
theorem dX12_pushes_6 : decode cX12_pushes 6 = .ok (.invokestatic 60, 3) := by decide +kernel
theorem dX12_pushes_9 : decode cX12_pushes 9 = .ok (.ifCond .ne 10, 3) := by decide +kernel
theorem dX12_pushes_12 : decode cX12_pushes 12 = .ok (.aload_n 0, 1) := by decide +kernel
theorem dX12_pushes_13 : decode cX12_pushes 13 = .ok (.bipush (-2), 2) := by decide +kernel
theorem dX12_pushes_15 : decode cX12_pushes 15 = .ok (.invokevirtual 73, 3) := by decide +kernel
theorem dX12_pushes_18 : decode cX12_pushes 18 = .ok (.ireturn, 1) := by decide +kernel
theorem dX12_pushes_19 : decode cX12_pushes 19 = .ok (.aload_n 0, 1) := by decide +kernel
theorem dX12_pushes_20 : decode cX12_pushes 20 = .ok (.aload_n 0, 1) := by decide +kernel
theorem dX12_pushes_21 : decode cX12_pushes 21 = .ok (.invokevirtual 127, 3) := by decide +kernel
theorem dX12_pushes_24 : decode cX12_pushes 24 = .ok (.putfield 105, 3) := by decide +kernel
theorem dX12_pushes_27 : decode cX12_pushes 27 = .ok (.iconst 0, 1) := by decide +kernel
theorem dX12_pushes_28 : decode cX12_pushes 28 = .ok (.istore_n 2, 1) := by decide +kernel
theorem dX12_pushes_29 : decode cX12_pushes 29 = .ok (.iload_n 2, 1) := by decide +kernel
theorem dX12_pushes_30 : decode cX12_pushes 30 = .ok (.bipush 120, 2) := by decide +kernel
theorem dX12_pushes_32 : decode cX12_pushes 32 = .ok (.if_icmp .ge 21, 3) := by decide +kernel
theorem dX12_pushes_35 : decode cX12_pushes 35 = .ok (.aload_n 0, 1) := by decide +kernel
theorem dX12_pushes_36 : decode cX12_pushes 36 = .ok (.getfield 36, 3) := by decide +kernel
theorem dX12_pushes_39 : decode cX12_pushes 39 = .ok (.bipush 120, 2) := by decide +kernel
theorem dX12_pushes_41 : decode cX12_pushes 41 = .ok (.iload_n 1, 1) := by decide +kernel
theorem dX12_pushes_42 : decode cX12_pushes 42 = .ok (.imul, 1) := by decide +kernel
theorem dX12_pushes_43 : decode cX12_pushes 43 = .ok (.iload_n 2, 1) := by decide +kernel
theorem dX12_pushes_44 : decode cX12_pushes 44 = .ok (.iadd, 1) := by decide +kernel
theorem dX12_pushes_45 : decode cX12_pushes 45 = .ok (.iconst 0, 1) := by decide +kernel
theorem dX12_pushes_46 : decode cX12_pushes 46 = .ok (.iastore, 1) := by decide +kernel
theorem dX12_pushes_47 : decode cX12_pushes 47 = .ok (.iinc 2 1, 3) := by decide +kernel
theorem dX12_pushes_50 : decode cX12_pushes 50 = .ok (.goto (-21), 3) := by decide +kernel
theorem dX12_pushes_53 : decode cX12_pushes 53 = .ok (.iload_n 1, 1) := by decide +kernel
theorem dX12_pushes_54 : decode cX12_pushes 54 = .ok (.iconst 1, 1) := by decide +kernel
theorem dX12_pushes_55 : decode cX12_pushes 55 = .ok (.isub, 1) := by decide +kernel
theorem dX12_pushes_56 : decode cX12_pushes 56 = .ok (.istore_n 2, 1) := by decide +kernel
theorem dX12_pushes_57 : decode cX12_pushes 57 = .ok (.iload_n 2, 1) := by decide +kernel
theorem dX12_pushes_58 : decode cX12_pushes 58 = .ok (.ifCond .lt 154, 3) := by decide +kernel
theorem dX12_pushes_61 : decode cX12_pushes 61 = .ok (.iconst 0, 1) := by decide +kernel
theorem dX12_pushes_62 : decode cX12_pushes 62 = .ok (.istore_n 3, 1) := by decide +kernel
theorem dX12_pushes_63 : decode cX12_pushes 63 = .ok (.iload_n 3, 1) := by decide +kernel
theorem dX12_pushes_64 : decode cX12_pushes 64 = .ok (.bipush 120, 2) := by decide +kernel
theorem dX12_pushes_66 : decode cX12_pushes 66 = .ok (.if_icmp .ge 140, 3) := by decide +kernel
theorem dX12_pushes_69 : decode cX12_pushes 69 = .ok (.ldc 177, 2) := by decide +kernel
theorem dX12_pushes_71 : decode cX12_pushes 71 = .ok (.istore 4, 2) := by decide +kernel
theorem dX12_pushes_73 : decode cX12_pushes 73 = .ok (.iconst (-1), 1) := by decide +kernel
theorem dX12_pushes_74 : decode cX12_pushes 74 = .ok (.istore 5, 2) := by decide +kernel
theorem dX12_pushes_76 : decode cX12_pushes 76 = .ok (.iload 5, 2) := by decide +kernel
theorem dX12_pushes_78 : decode cX12_pushes 78 = .ok (.iconst 2, 1) := by decide +kernel
theorem dX12_pushes_79 : decode cX12_pushes 79 = .ok (.if_icmp .ge 108, 3) := by decide +kernel
theorem dX12_pushes_82 : decode cX12_pushes 82 = .ok (.iload_n 3, 1) := by decide +kernel
theorem dX12_pushes_83 : decode cX12_pushes 83 = .ok (.bipush 24, 2) := by decide +kernel
theorem dX12_pushes_85 : decode cX12_pushes 85 = .ok (.irem, 1) := by decide +kernel
theorem dX12_pushes_86 : decode cX12_pushes 86 = .ok (.aload_n 0, 1) := by decide +kernel
theorem dX12_pushes_87 : decode cX12_pushes 87 = .ok (.invokevirtual 64, 3) := by decide +kernel
theorem dX12_pushes_90 : decode cX12_pushes 90 = .ok (.if_icmp .ge 97, 3) := by decide +kernel
theorem dX12_pushes_93 : decode cX12_pushes 93 = .ok (.iload_n 3, 1) := by decide +kernel
theorem dX12_pushes_94 : decode cX12_pushes 94 = .ok (.bipush 24, 2) := by decide +kernel
theorem dX12_pushes_96 : decode cX12_pushes 96 = .ok (.idiv, 1) := by decide +kernel
theorem dX12_pushes_97 : decode cX12_pushes 97 = .ok (.iload 5, 2) := by decide +kernel
theorem dX12_pushes_99 : decode cX12_pushes 99 = .ok (.iadd, 1) := by decide +kernel
theorem dX12_pushes_100 : decode cX12_pushes 100 = .ok (.istore 6, 2) := by decide +kernel
theorem dX12_pushes_102 : decode cX12_pushes 102 = .ok (.iload 6, 2) := by decide +kernel
theorem dX12_pushes_104 : decode cX12_pushes 104 = .ok (.invokestatic 77, 3) := by decide +kernel
theorem dX12_pushes_107 : decode cX12_pushes 107 = .ok (.ifCond .eq 17, 3) := by decide +kernel
theorem dX12_pushes_110 : decode cX12_pushes 110 = .ok (.aload_n 0, 1) := by decide +kernel
theorem dX12_pushes_111 : decode cX12_pushes 111 = .ok (.iload_n 2, 1) := by decide +kernel
theorem dX12_pushes_112 : decode cX12_pushes 112 = .ok (.iload 6, 2) := by decide +kernel
theorem dX12_pushes_114 : decode cX12_pushes 114 = .ok (.iload_n 3, 1) := by decide +kernel
theorem dX12_pushes_115 : decode cX12_pushes 115 = .ok (.bipush 24, 2) := by decide +kernel
theorem dX12_pushes_117 : decode cX12_pushes 117 = .ok (.irem, 1) := by decide +kernel
theorem dX12_pushes_118 : decode cX12_pushes 118 = .ok (.invokevirtual 178, 3) := by decide +kernel
theorem dX12_pushes_121 : decode cX12_pushes 121 = .ok (.goto 4, 3) := by decide +kernel
theorem dX12_pushes_124 : decode cX12_pushes 124 = .ok (.iconst (-1), 1) := by decide +kernel
theorem dX12_pushes_125 : decode cX12_pushes 125 = .ok (.istore 7, 2) := by decide +kernel
theorem dX12_pushes_127 : decode cX12_pushes 127 = .ok (.iload 7, 2) := by decide +kernel
theorem dX12_pushes_129 : decode cX12_pushes 129 = .ok (.iconst (-1), 1) := by decide +kernel
theorem dX12_pushes_130 : decode cX12_pushes 130 = .ok (.if_icmp .ne 8, 3) := by decide +kernel
theorem dX12_pushes_133 : decode cX12_pushes 133 = .ok (.ldc 177, 2) := by decide +kernel
theorem dX12_pushes_135 : decode cX12_pushes 135 = .ok (.goto 28, 3) := by decide +kernel
theorem dX12_pushes_138 : decode cX12_pushes 138 = .ok (.aload_n 0, 1) := by decide +kernel
theorem dX12_pushes_139 : decode cX12_pushes 139 = .ok (.getfield 36, 3) := by decide +kernel
theorem dX12_pushes_142 : decode cX12_pushes 142 = .ok (.bipush 120, 2) := by decide +kernel
theorem dX12_pushes_144 : decode cX12_pushes 144 = .ok (.iload_n 2, 1) := by decide +kernel
theorem dX12_pushes_145 : decode cX12_pushes 145 = .ok (.iconst 1, 1) := by decide +kernel
theorem dX12_pushes_146 : decode cX12_pushes 146 = .ok (.iadd, 1) := by decide +kernel
theorem dX12_pushes_147 : decode cX12_pushes 147 = .ok (.imul, 1) := by decide +kernel
theorem dX12_pushes_148 : decode cX12_pushes 148 = .ok (.iload 7, 2) := by decide +kernel
theorem dX12_pushes_150 : decode cX12_pushes 150 = .ok (.iadd, 1) := by decide +kernel
theorem dX12_pushes_151 : decode cX12_pushes 151 = .ok (.iaload, 1) := by decide +kernel
theorem dX12_pushes_152 : decode cX12_pushes 152 = .ok (.iload 5, 2) := by decide +kernel
theorem dX12_pushes_154 : decode cX12_pushes 154 = .ok (.ifCond .ne 7, 3) := by decide +kernel
theorem dX12_pushes_157 : decode cX12_pushes 157 = .ok (.iconst 0, 1) := by decide +kernel
theorem dX12_pushes_158 : decode cX12_pushes 158 = .ok (.goto 4, 3) := by decide +kernel
theorem dX12_pushes_161 : decode cX12_pushes 161 = .ok (.iconst 1, 1) := by decide +kernel
theorem dX12_pushes_162 : decode cX12_pushes 162 = .ok (.iadd, 1) := by decide +kernel
theorem dX12_pushes_163 : decode cX12_pushes 163 = .ok (.istore 8, 2) := by decide +kernel
theorem dX12_pushes_165 : decode cX12_pushes 165 = .ok (.iload 8, 2) := by decide +kernel
theorem dX12_pushes_167 : decode cX12_pushes 167 = .ok (.iload 4, 2) := by decide +kernel
theorem dX12_pushes_169 : decode cX12_pushes 169 = .ok (.if_icmp .ge 8, 3) := by decide +kernel
theorem dX12_pushes_172 : decode cX12_pushes 172 = .ok (.iload 8, 2) := by decide +kernel
theorem dX12_pushes_174 : decode cX12_pushes 174 = .ok (.goto 5, 3) := by decide +kernel
theorem dX12_pushes_177 : decode cX12_pushes 177 = .ok (.iload 4, 2) := by decide +kernel
theorem dX12_pushes_179 : decode cX12_pushes 179 = .ok (.istore 4, 2) := by decide +kernel
theorem dX12_pushes_181 : decode cX12_pushes 181 = .ok (.iinc 5 1, 3) := by decide +kernel
theorem dX12_pushes_184 : decode cX12_pushes 184 = .ok (.goto (-108), 3) := by decide +kernel
theorem dX12_pushes_187 : decode cX12_pushes 187 = .ok (.aload_n 0, 1) := by decide +kernel
theorem dX12_pushes_188 : decode cX12_pushes 188 = .ok (.getfield 36, 3) := by decide +kernel
theorem dX12_pushes_191 : decode cX12_pushes 191 = .ok (.bipush 120, 2) := by decide +kernel
theorem dX12_pushes_193 : decode cX12_pushes 193 = .ok (.iload_n 2, 1) := by decide +kernel
theorem dX12_pushes_194 : decode cX12_pushes 194 = .ok (.imul, 1) := by decide +kernel
theorem dX12_pushes_195 : decode cX12_pushes 195 = .ok (.iload_n 3, 1) := by decide +kernel
theorem dX12_pushes_196 : decode cX12_pushes 196 = .ok (.iadd, 1) := by decide +kernel
theorem dX12_pushes_197 : decode cX12_pushes 197 = .ok (.iload 4, 2) := by decide +kernel
theorem dX12_pushes_199 : decode cX12_pushes 199 = .ok (.iastore, 1) := by decide +kernel
theorem dX12_pushes_200 : decode cX12_pushes 200 = .ok (.iinc 3 1, 3) := by decide +kernel
theorem dX12_pushes_203 : decode cX12_pushes 203 = .ok (.goto (-140), 3) := by decide +kernel
theorem dX12_pushes_206 : decode cX12_pushes 206 = .ok (.iinc 2 (-1), 3) := by decide +kernel
theorem dX12_pushes_209 : decode cX12_pushes 209 = .ok (.goto (-152), 3) := by decide +kernel
theorem dX12_pushes_212 : decode cX12_pushes 212 = .ok (.iconst 0, 1) := by decide +kernel
theorem dX12_pushes_213 : decode cX12_pushes 213 = .ok (.istore_n 2, 1) := by decide +kernel
theorem dX12_pushes_214 : decode cX12_pushes 214 = .ok (.iconst 0, 1) := by decide +kernel
theorem dX12_pushes_215 : decode cX12_pushes 215 = .ok (.istore_n 3, 1) := by decide +kernel
theorem dX12_pushes_216 : decode cX12_pushes 216 = .ok (.iload_n 3, 1) := by decide +kernel
theorem dX12_pushes_217 : decode cX12_pushes 217 = .ok (.bipush 120, 2) := by decide +kernel
theorem dX12_pushes_219 : decode cX12_pushes 219 = .ok (.if_icmp .ge 59, 3) := by decide +kernel
theorem dX12_pushes_222 : decode cX12_pushes 222 = .ok (.aload_n 0, 1) := by decide +kernel
theorem dX12_pushes_223 : decode cX12_pushes 223 = .ok (.getfield 7, 3) := by decide +kernel
theorem dX12_pushes_226 : decode cX12_pushes 226 = .ok (.bipush 6, 2) := by decide +kernel
theorem dX12_pushes_228 : decode cX12_pushes 228 = .ok (.iload_n 3, 1) := by decide +kernel
theorem dX12_pushes_229 : decode cX12_pushes 229 = .ok (.iadd, 1) := by decide +kernel
theorem dX12_pushes_230 : decode cX12_pushes 230 = .ok (.iaload, 1) := by decide +kernel
theorem dX12_pushes_231 : decode cX12_pushes 231 = .ok (.istore 4, 2) := by decide +kernel
theorem dX12_pushes_233 : decode cX12_pushes 233 = .ok (.iload 4, 2) := by decide +kernel
theorem dX12_pushes_235 : decode cX12_pushes 235 = .ok (.ifCond .le 16, 3) := by decide +kernel
theorem dX12_pushes_238 : decode cX12_pushes 238 = .ok (.aload_n 0, 1) := by decide +kernel
theorem dX12_pushes_239 : decode cX12_pushes 239 = .ok (.getfield 36, 3) := by decide +kernel
theorem dX12_pushes_242 : decode cX12_pushes 242 = .ok (.iload_n 3, 1) := by decide +kernel
theorem dX12_pushes_243 : decode cX12_pushes 243 = .ok (.iaload, 1) := by decide +kernel
theorem dX12_pushes_244 : decode cX12_pushes 244 = .ok (.ldc 177, 2) := by decide +kernel
theorem dX12_pushes_246 : decode cX12_pushes 246 = .ok (.if_icmp .lt 5, 3) := by decide +kernel
theorem dX12_pushes_249 : decode cX12_pushes 249 = .ok (.iconst (-1), 1) := by decide +kernel
theorem dX12_pushes_250 : decode cX12_pushes 250 = .ok (.ireturn, 1) := by decide +kernel
theorem dX12_pushes_251 : decode cX12_pushes 251 = .ok (.iload_n 2, 1) := by decide +kernel
theorem dX12_pushes_252 : decode cX12_pushes 252 = .ok (.iload 4, 2) := by decide +kernel
theorem dX12_pushes_254 : decode cX12_pushes 254 = .ok (.ifCond .le 15, 3) := by decide +kernel
theorem dX12_pushes_257 : decode cX12_pushes 257 = .ok (.iload 4, 2) := by decide +kernel
theorem dX12_pushes_259 : decode cX12_pushes 259 = .ok (.aload_n 0, 1) := by decide +kernel
theorem dX12_pushes_260 : decode cX12_pushes 260 = .ok (.getfield 36, 3) := by decide +kernel
theorem dX12_pushes_263 : decode cX12_pushes 263 = .ok (.iload_n 3, 1) := by decide +kernel
theorem dX12_pushes_264 : decode cX12_pushes 264 = .ok (.iaload, 1) := by decide +kernel
theorem dX12_pushes_265 : decode cX12_pushes 265 = .ok (.imul, 1) := by decide +kernel
theorem dX12_pushes_266 : decode cX12_pushes 266 = .ok (.goto 4, 3) := by decide +kernel
theorem dX12_pushes_269 : decode cX12_pushes 269 = .ok (.iconst 0, 1) := by decide +kernel
theorem dX12_pushes_270 : decode cX12_pushes 270 = .ok (.iadd, 1) := by decide +kernel
theorem dX12_pushes_271 : decode cX12_pushes 271 = .ok (.istore_n 2, 1) := by decide +kernel
theorem dX12_pushes_272 : decode cX12_pushes 272 = .ok (.iinc 3 1, 3) := by decide +kernel
theorem dX12_pushes_275 : decode cX12_pushes 275 = .ok (.goto (-59), 3) := by decide +kernel
theorem dX12_pushes_278 : decode cX12_pushes 278 = .ok (.iload_n 2, 1) := by decide +kernel
theorem dX12_pushes_279 : decode cX12_pushes 279 = .ok (.ireturn, 1) := by decide +kernel
theorem dX12_moved_0 : decode cX12_moved 0 = .ok (.aload_n 0, 1) := by decide +kernel
theorem dX12_moved_1 : decode cX12_moved 1 = .ok (.iload_n 1, 1) := by decide +kernel
theorem dX12_moved_2 : decode cX12_moved 2 = .ok (.invokevirtual 144, 3) := by decide +kernel
theorem dX12_moved_5 : decode cX12_moved 5 = .ok (.ifCond .eq 10, 3) := by decide +kernel
theorem dX12_moved_8 : decode cX12_moved 8 = .ok (.iload_n 2, 1) := by decide +kernel
theorem dX12_moved_9 : decode cX12_moved 9 = .ok (.invokestatic 163, 3) := by decide +kernel
theorem dX12_moved_12 : decode cX12_moved 12 = .ok (.ifCond .ne 10, 3) := by decide +kernel
theorem dX12_moved_15 : decode cX12_moved 15 = .ok (.aload_n 0, 1) := by decide +kernel
theorem dX12_moved_16 : decode cX12_moved 16 = .ok (.bipush (-2), 2) := by decide +kernel
theorem dX12_moved_18 : decode cX12_moved 18 = .ok (.invokevirtual 73, 3) := by decide +kernel
theorem dX12_moved_21 : decode cX12_moved 21 = .ok (.ireturn, 1) := by decide +kernel
theorem dX12_moved_22 : decode cX12_moved 22 = .ok (.bipush 127, 2) := by decide +kernel
theorem dX12_moved_24 : decode cX12_moved 24 = .ok (.iconst 4, 1) := by decide +kernel
theorem dX12_moved_25 : decode cX12_moved 25 = .ok (.iload_n 1, 1) := by decide +kernel
theorem dX12_moved_26 : decode cX12_moved 26 = .ok (.imul, 1) := by decide +kernel
theorem dX12_moved_27 : decode cX12_moved 27 = .ok (.iadd, 1) := by decide +kernel
theorem dX12_moved_28 : decode cX12_moved 28 = .ok (.iconst 2, 1) := by decide +kernel
theorem dX12_moved_29 : decode cX12_moved 29 = .ok (.iadd, 1) := by decide +kernel
theorem dX12_moved_30 : decode cX12_moved 30 = .ok (.istore_n 3, 1) := by decide +kernel
theorem dX12_moved_31 : decode cX12_moved 31 = .ok (.aload_n 0, 1) := by decide +kernel
theorem dX12_moved_32 : decode cX12_moved 32 = .ok (.getfield 7, 3) := by decide +kernel
theorem dX12_moved_35 : decode cX12_moved 35 = .ok (.iload_n 3, 1) := by decide +kernel
theorem dX12_moved_36 : decode cX12_moved 36 = .ok (.iaload, 1) := by decide +kernel
theorem dX12_moved_37 : decode cX12_moved 37 = .ok (.istore 4, 2) := by decide +kernel
theorem dX12_moved_39 : decode cX12_moved 39 = .ok (.iconst 0, 1) := by decide +kernel
theorem dX12_moved_40 : decode cX12_moved 40 = .ok (.istore 5, 2) := by decide +kernel
theorem dX12_moved_42 : decode cX12_moved 42 = .ok (.ldc 177, 2) := by decide +kernel
theorem dX12_moved_44 : decode cX12_moved 44 = .ok (.istore 6, 2) := by decide +kernel
theorem dX12_moved_46 : decode cX12_moved 46 = .ok (.iconst 0, 1) := by decide +kernel
theorem dX12_moved_47 : decode cX12_moved 47 = .ok (.istore 7, 2) := by decide +kernel
theorem dX12_moved_49 : decode cX12_moved 49 = .ok (.iload 7, 2) := by decide +kernel
theorem dX12_moved_51 : decode cX12_moved 51 = .ok (.aload_n 0, 1) := by decide +kernel
theorem dX12_moved_52 : decode cX12_moved 52 = .ok (.invokevirtual 64, 3) := by decide +kernel
theorem dX12_moved_55 : decode cX12_moved 55 = .ok (.if_icmp .ge 68, 3) := by decide +kernel
theorem dX12_moved_58 : decode cX12_moved 58 = .ok (.aload_n 0, 1) := by decide +kernel
theorem dX12_moved_59 : decode cX12_moved 59 = .ok (.getfield 7, 3) := by decide +kernel
theorem dX12_moved_62 : decode cX12_moved 62 = .ok (.iload_n 3, 1) := by decide +kernel
theorem dX12_moved_63 : decode cX12_moved 63 = .ok (.iload 4, 2) := by decide +kernel
theorem dX12_moved_65 : decode cX12_moved 65 = .ok (.iload 7, 2) := by decide +kernel
theorem dX12_moved_67 : decode cX12_moved 67 = .ok (.iadd, 1) := by decide +kernel
theorem dX12_moved_68 : decode cX12_moved 68 = .ok (.aload_n 0, 1) := by decide +kernel
theorem dX12_moved_69 : decode cX12_moved 69 = .ok (.invokevirtual 64, 3) := by decide +kernel
theorem dX12_moved_72 : decode cX12_moved 72 = .ok (.irem, 1) := by decide +kernel
theorem dX12_moved_73 : decode cX12_moved 73 = .ok (.iastore, 1) := by decide +kernel
theorem dX12_moved_74 : decode cX12_moved 74 = .ok (.aload_n 0, 1) := by decide +kernel
theorem dX12_moved_75 : decode cX12_moved 75 = .ok (.iload_n 2, 1) := by decide +kernel
theorem dX12_moved_76 : decode cX12_moved 76 = .ok (.aload_n 0, 1) := by decide +kernel
theorem dX12_moved_77 : decode cX12_moved 77 = .ok (.invokevirtual 127, 3) := by decide +kernel
theorem dX12_moved_80 : decode cX12_moved 80 = .ok (.invokevirtual 172, 3) := by decide +kernel
theorem dX12_moved_83 : decode cX12_moved 83 = .ok (.istore 8, 2) := by decide +kernel
theorem dX12_moved_85 : decode cX12_moved 85 = .ok (.iload 8, 2) := by decide +kernel
theorem dX12_moved_87 : decode cX12_moved 87 = .ok (.iload 6, 2) := by decide +kernel
theorem dX12_moved_89 : decode cX12_moved 89 = .ok (.if_icmp .ge 8, 3) := by decide +kernel
theorem dX12_moved_92 : decode cX12_moved 92 = .ok (.iload 7, 2) := by decide +kernel
theorem dX12_moved_94 : decode cX12_moved 94 = .ok (.goto 5, 3) := by decide +kernel
theorem dX12_moved_97 : decode cX12_moved 97 = .ok (.iload 5, 2) := by decide +kernel
theorem dX12_moved_99 : decode cX12_moved 99 = .ok (.istore 5, 2) := by decide +kernel
theorem dX12_moved_101 : decode cX12_moved 101 = .ok (.iload 8, 2) := by decide +kernel
theorem dX12_moved_103 : decode cX12_moved 103 = .ok (.iload 6, 2) := by decide +kernel
theorem dX12_moved_105 : decode cX12_moved 105 = .ok (.if_icmp .ge 8, 3) := by decide +kernel
theorem dX12_moved_108 : decode cX12_moved 108 = .ok (.iload 8, 2) := by decide +kernel
theorem dX12_moved_110 : decode cX12_moved 110 = .ok (.goto 5, 3) := by decide +kernel
theorem dX12_moved_113 : decode cX12_moved 113 = .ok (.iload 6, 2) := by decide +kernel
theorem dX12_moved_115 : decode cX12_moved 115 = .ok (.istore 6, 2) := by decide +kernel
theorem dX12_moved_117 : decode cX12_moved 117 = .ok (.iinc 7 1, 3) := by decide +kernel
theorem dX12_moved_120 : decode cX12_moved 120 = .ok (.goto (-71), 3) := by decide +kernel
theorem dX12_moved_123 : decode cX12_moved 123 = .ok (.aload_n 0, 1) := by decide +kernel
theorem dX12_moved_124 : decode cX12_moved 124 = .ok (.getfield 7, 3) := by decide +kernel
theorem dX12_moved_127 : decode cX12_moved 127 = .ok (.iload_n 3, 1) := by decide +kernel
theorem dX12_moved_128 : decode cX12_moved 128 = .ok (.iload 4, 2) := by decide +kernel
theorem dX12_moved_130 : decode cX12_moved 130 = .ok (.iastore, 1) := by decide +kernel
theorem dX12_moved_131 : decode cX12_moved 131 = .ok (.iload 5, 2) := by decide +kernel
theorem dX12_moved_133 : decode cX12_moved 133 = .ok (.ireturn, 1) := by decide +kernel
theorem dX12_isRoad_0 : decode cX12_isRoad 0 = .ok (.iconst 1, 1) := by decide +kernel
theorem dX12_isRoad_1 : decode cX12_isRoad 1 = .ok (.istore_n 2, 1) := by decide +kernel
theorem dX12_isRoad_2 : decode cX12_isRoad 2 = .ok (.iconst 0, 1) := by decide +kernel
theorem dX12_isRoad_3 : decode cX12_isRoad 3 = .ok (.istore_n 3, 1) := by decide +kernel
theorem dX12_isRoad_4 : decode cX12_isRoad 4 = .ok (.iload_n 3, 1) := by decide +kernel
theorem dX12_isRoad_5 : decode cX12_isRoad 5 = .ok (.iconst 5, 1) := by decide +kernel
theorem dX12_isRoad_6 : decode cX12_isRoad 6 = .ok (.if_icmp .ge 33, 3) := by decide +kernel
theorem dX12_isRoad_9 : decode cX12_isRoad 9 = .ok (.iload_n 2, 1) := by decide +kernel
theorem dX12_isRoad_10 : decode cX12_isRoad 10 = .ok (.ifCond .eq 21, 3) := by decide +kernel
theorem dX12_isRoad_13 : decode cX12_isRoad 13 = .ok (.aload_n 0, 1) := by decide +kernel
theorem dX12_isRoad_14 : decode cX12_isRoad 14 = .ok (.getfield 27, 3) := by decide +kernel
theorem dX12_isRoad_17 : decode cX12_isRoad 17 = .ok (.bipush 24, 2) := by decide +kernel
theorem dX12_isRoad_19 : decode cX12_isRoad 19 = .ok (.iload_n 3, 1) := by decide +kernel
theorem dX12_isRoad_20 : decode cX12_isRoad 20 = .ok (.imul, 1) := by decide +kernel
theorem dX12_isRoad_21 : decode cX12_isRoad 21 = .ok (.iload_n 1, 1) := by decide +kernel
theorem dX12_isRoad_22 : decode cX12_isRoad 22 = .ok (.iadd, 1) := by decide +kernel
theorem dX12_isRoad_23 : decode cX12_isRoad 23 = .ok (.iaload, 1) := by decide +kernel
theorem dX12_isRoad_24 : decode cX12_isRoad 24 = .ok (.ifCond .ne 7, 3) := by decide +kernel
theorem dX12_isRoad_27 : decode cX12_isRoad 27 = .ok (.iconst 1, 1) := by decide +kernel
theorem dX12_isRoad_28 : decode cX12_isRoad 28 = .ok (.goto 4, 3) := by decide +kernel
theorem dX12_isRoad_31 : decode cX12_isRoad 31 = .ok (.iconst 0, 1) := by decide +kernel
theorem dX12_isRoad_32 : decode cX12_isRoad 32 = .ok (.istore_n 2, 1) := by decide +kernel
theorem dX12_isRoad_33 : decode cX12_isRoad 33 = .ok (.iinc 3 1, 3) := by decide +kernel
theorem dX12_isRoad_36 : decode cX12_isRoad 36 = .ok (.goto (-32), 3) := by decide +kernel
theorem dX12_isRoad_39 : decode cX12_isRoad 39 = .ok (.iload_n 2, 1) := by decide +kernel
theorem dX12_isRoad_40 : decode cX12_isRoad 40 = .ok (.ireturn, 1) := by decide +kernel
theorem dX12_road_0 : decode cX12_road 0 = .ok (.aload_n 0, 1) := by decide +kernel
theorem dX12_road_1 : decode cX12_road 1 = .ok (.iload_n 1, 1) := by decide +kernel
theorem dX12_road_2 : decode cX12_road 2 = .ok (.invokevirtual 83, 3) := by decide +kernel
theorem dX12_road_5 : decode cX12_road 5 = .ok (.ifCond .eq 20, 3) := by decide +kernel
theorem dX12_road_8 : decode cX12_road 8 = .ok (.iload_n 2, 1) := by decide +kernel
theorem dX12_road_9 : decode cX12_road 9 = .ok (.invokestatic 163, 3) := by decide +kernel
theorem dX12_road_12 : decode cX12_road 12 = .ok (.ifCond .eq 13, 3) := by decide +kernel
theorem dX12_road_15 : decode cX12_road 15 = .ok (.iload_n 3, 1) := by decide +kernel
theorem dX12_road_16 : decode cX12_road 16 = .ok (.i2l, 1) := by decide +kernel
theorem dX12_road_17 : decode cX12_road 17 = .ok (.lconst 0, 1) := by decide +kernel
theorem dX12_road_18 : decode cX12_road 18 = .ok (.lconst 1, 1) := by decide +kernel
theorem dX12_road_19 : decode cX12_road 19 = .ok (.invokestatic 60, 3) := by decide +kernel
theorem dX12_road_22 : decode cX12_road 22 = .ok (.ifCond .ne 10, 3) := by decide +kernel
theorem dX12_road_25 : decode cX12_road 25 = .ok (.aload_n 0, 1) := by decide +kernel
theorem dX12_road_26 : decode cX12_road 26 = .ok (.bipush (-10), 2) := by decide +kernel
theorem dX12_road_28 : decode cX12_road 28 = .ok (.invokevirtual 73, 3) := by decide +kernel
theorem dX12_road_31 : decode cX12_road 31 = .ok (.ireturn, 1) := by decide +kernel
theorem dX12_road_32 : decode cX12_road 32 = .ok (.aload_n 0, 1) := by decide +kernel
theorem dX12_road_33 : decode cX12_road 33 = .ok (.aload_n 0, 1) := by decide +kernel
theorem dX12_road_34 : decode cX12_road 34 = .ok (.invokevirtual 127, 3) := by decide +kernel
theorem dX12_road_37 : decode cX12_road 37 = .ok (.invokevirtual 130, 3) := by decide +kernel
theorem dX12_road_40 : decode cX12_road 40 = .ok (.iconst (-1), 1) := by decide +kernel
theorem dX12_road_41 : decode cX12_road 41 = .ok (.istore 4, 2) := by decide +kernel
theorem dX12_road_43 : decode cX12_road 43 = .ok (.iconst 0, 1) := by decide +kernel
theorem dX12_road_44 : decode cX12_road 44 = .ok (.istore 5, 2) := by decide +kernel
theorem dX12_road_46 : decode cX12_road 46 = .ok (.iconst 0, 1) := by decide +kernel
theorem dX12_road_47 : decode cX12_road 47 = .ok (.istore 6, 2) := by decide +kernel
theorem dX12_road_49 : decode cX12_road 49 = .ok (.iconst 0, 1) := by decide +kernel
theorem dX12_road_50 : decode cX12_road 50 = .ok (.istore 7, 2) := by decide +kernel
theorem dX12_road_52 : decode cX12_road 52 = .ok (.iload 7, 2) := by decide +kernel
theorem dX12_road_54 : decode cX12_road 54 = .ok (.iload_n 2, 1) := by decide +kernel
theorem dX12_road_55 : decode cX12_road 55 = .ok (.if_icmp .gt 89, 3) := by decide +kernel
theorem dX12_road_58 : decode cX12_road 58 = .ok (.iload 6, 2) := by decide +kernel
theorem dX12_road_60 : decode cX12_road 60 = .ok (.ifCond .ne 84, 3) := by decide +kernel
theorem dX12_road_63 : decode cX12_road 63 = .ok (.iload 7, 2) := by decide +kernel
theorem dX12_road_65 : decode cX12_road 65 = .ok (.ifCond .ne 7, 3) := by decide +kernel
theorem dX12_road_68 : decode cX12_road 68 = .ok (.iconst 0, 1) := by decide +kernel
theorem dX12_road_69 : decode cX12_road 69 = .ok (.goto 7, 3) := by decide +kernel
theorem dX12_road_72 : decode cX12_road 72 = .ok (.aload_n 0, 1) := by decide +kernel
theorem dX12_road_73 : decode cX12_road 73 = .ok (.invokevirtual 134, 3) := by decide +kernel
theorem dX12_road_76 : decode cX12_road 76 = .ok (.istore 8, 2) := by decide +kernel
theorem dX12_road_78 : decode cX12_road 78 = .ok (.aload_n 0, 1) := by decide +kernel
theorem dX12_road_79 : decode cX12_road 79 = .ok (.iload_n 1, 1) := by decide +kernel
theorem dX12_road_80 : decode cX12_road 80 = .ok (.invokevirtual 182, 3) := by decide +kernel
theorem dX12_road_83 : decode cX12_road 83 = .ok (.istore 9, 2) := by decide +kernel
theorem dX12_road_85 : decode cX12_road 85 = .ok (.iload 9, 2) := by decide +kernel
theorem dX12_road_87 : decode cX12_road 87 = .ok (.ifCond .eq 14, 3) := by decide +kernel
theorem dX12_road_90 : decode cX12_road 90 = .ok (.iload 4, 2) := by decide +kernel
theorem dX12_road_92 : decode cX12_road 92 = .ok (.iconst (-1), 1) := by decide +kernel
theorem dX12_road_93 : decode cX12_road 93 = .ok (.if_icmp .ne 8, 3) := by decide +kernel
theorem dX12_road_96 : decode cX12_road 96 = .ok (.iload 7, 2) := by decide +kernel
theorem dX12_road_98 : decode cX12_road 98 = .ok (.goto 5, 3) := by decide +kernel
theorem dX12_road_101 : decode cX12_road 101 = .ok (.iload 4, 2) := by decide +kernel
theorem dX12_road_103 : decode cX12_road 103 = .ok (.istore 4, 2) := by decide +kernel
theorem dX12_road_105 : decode cX12_road 105 = .ok (.iload 5, 2) := by decide +kernel
theorem dX12_road_107 : decode cX12_road 107 = .ok (.iload 9, 2) := by decide +kernel
theorem dX12_road_109 : decode cX12_road 109 = .ok (.ifCond .eq 7, 3) := by decide +kernel
theorem dX12_road_112 : decode cX12_road 112 = .ok (.iconst 1, 1) := by decide +kernel
theorem dX12_road_113 : decode cX12_road 113 = .ok (.goto 4, 3) := by decide +kernel
theorem dX12_road_116 : decode cX12_road 116 = .ok (.iconst 0, 1) := by decide +kernel
theorem dX12_road_117 : decode cX12_road 117 = .ok (.iadd, 1) := by decide +kernel
theorem dX12_road_118 : decode cX12_road 118 = .ok (.istore 5, 2) := by decide +kernel
theorem dX12_road_120 : decode cX12_road 120 = .ok (.iload 4, 2) := by decide +kernel
theorem dX12_road_122 : decode cX12_road 122 = .ok (.iconst (-1), 1) := by decide +kernel
theorem dX12_road_123 : decode cX12_road 123 = .ok (.if_icmp .eq 12, 3) := by decide +kernel
theorem dX12_road_126 : decode cX12_road 126 = .ok (.iload 9, 2) := by decide +kernel
theorem dX12_road_128 : decode cX12_road 128 = .ok (.ifCond .ne 7, 3) := by decide +kernel
theorem dX12_road_131 : decode cX12_road 131 = .ok (.iconst 1, 1) := by decide +kernel
theorem dX12_road_132 : decode cX12_road 132 = .ok (.goto 4, 3) := by decide +kernel
theorem dX12_road_135 : decode cX12_road 135 = .ok (.iconst 0, 1) := by decide +kernel
theorem dX12_road_136 : decode cX12_road 136 = .ok (.istore 6, 2) := by decide +kernel
theorem dX12_road_138 : decode cX12_road 138 = .ok (.iinc 7 1, 3) := by decide +kernel
theorem dX12_road_141 : decode cX12_road 141 = .ok (.goto (-89), 3) := by decide +kernel
theorem dX12_road_144 : decode cX12_road 144 = .ok (.iload_n 3, 1) := by decide +kernel
theorem dX12_road_145 : decode cX12_road 145 = .ok (.ifCond .eq 9, 3) := by decide +kernel
theorem dX12_road_148 : decode cX12_road 148 = .ok (.iload 4, 2) := by decide +kernel
theorem dX12_road_150 : decode cX12_road 150 = .ok (.iconst (-1), 1) := by decide +kernel
theorem dX12_road_151 : decode cX12_road 151 = .ok (.if_icmp .ne 8, 3) := by decide +kernel
theorem dX12_road_154 : decode cX12_road 154 = .ok (.iload 4, 2) := by decide +kernel
theorem dX12_road_156 : decode cX12_road 156 = .ok (.goto 5, 3) := by decide +kernel
theorem dX12_road_159 : decode cX12_road 159 = .ok (.iload 5, 2) := by decide +kernel
theorem dX12_road_161 : decode cX12_road 161 = .ok (.ireturn, 1) := by decide +kernel
theorem dX12_common_0 : decode cX12_common 0 = .ok (.iload_n 0, 1) := by decide +kernel
theorem dX12_common_1 : decode cX12_common 1 = .ok (.istore_n 2, 1) := by decide +kernel
theorem dX12_common_2 : decode cX12_common 2 = .ok (.iload_n 1, 1) := by decide +kernel
theorem dX12_common_3 : decode cX12_common 3 = .ok (.istore_n 3, 1) := by decide +kernel
theorem dX12_common_4 : decode cX12_common 4 = .ok (.iload_n 3, 1) := by decide +kernel
theorem dX12_common_5 : decode cX12_common 5 = .ok (.ifCond .eq 16, 3) := by decide +kernel
theorem dX12_common_8 : decode cX12_common 8 = .ok (.iload_n 2, 1) := by decide +kernel
theorem dX12_common_9 : decode cX12_common 9 = .ok (.iload_n 3, 1) := by decide +kernel
theorem dX12_common_10 : decode cX12_common 10 = .ok (.irem, 1) := by decide +kernel
theorem dX12_common_11 : decode cX12_common 11 = .ok (.istore 4, 2) := by decide +kernel
theorem dX12_common_13 : decode cX12_common 13 = .ok (.iload_n 3, 1) := by decide +kernel
theorem dX12_common_14 : decode cX12_common 14 = .ok (.istore_n 2, 1) := by decide +kernel
theorem dX12_common_15 : decode cX12_common 15 = .ok (.iload 4, 2) := by decide +kernel
theorem dX12_common_17 : decode cX12_common 17 = .ok (.istore_n 3, 1) := by decide +kernel
theorem dX12_common_18 : decode cX12_common 18 = .ok (.goto (-14), 3) := by decide +kernel
theorem dX12_common_21 : decode cX12_common 21 = .ok (.iload_n 2, 1) := by decide +kernel
theorem dX12_common_22 : decode cX12_common 22 = .ok (.ireturn, 1) := by decide +kernel
theorem dX12_turns_0 : decode cX12_turns 0 = .ok (.aload_n 0, 1) := by decide +kernel
theorem dX12_turns_1 : decode cX12_turns 1 = .ok (.invokevirtual 64, 3) := by decide +kernel
theorem dX12_turns_4 : decode cX12_turns 4 = .ok (.aload_n 0, 1) := by decide +kernel
theorem dX12_turns_5 : decode cX12_turns 5 = .ok (.invokevirtual 64, 3) := by decide +kernel
theorem dX12_turns_8 : decode cX12_turns 8 = .ok (.iload_n 1, 1) := by decide +kernel
theorem dX12_turns_9 : decode cX12_turns 9 = .ok (.invokestatic 185, 3) := by decide +kernel
theorem dX12_turns_12 : decode cX12_turns 12 = .ok (.idiv, 1) := by decide +kernel
theorem dX12_turns_13 : decode cX12_turns 13 = .ok (.ireturn, 1) := by decide +kernel
theorem dX12_back_0 : decode cX12_back 0 = .ok (.iconst 1, 1) := by decide +kernel
theorem dX12_back_1 : decode cX12_back 1 = .ok (.istore_n 1, 1) := by decide +kernel
theorem dX12_back_2 : decode cX12_back 2 = .ok (.iconst 0, 1) := by decide +kernel
theorem dX12_back_3 : decode cX12_back 3 = .ok (.istore_n 2, 1) := by decide +kernel
theorem dX12_back_4 : decode cX12_back 4 = .ok (.iload_n 2, 1) := by decide +kernel
theorem dX12_back_5 : decode cX12_back 5 = .ok (.iconst 5, 1) := by decide +kernel
theorem dX12_back_6 : decode cX12_back 6 = .ok (.if_icmp .ge 32, 3) := by decide +kernel
theorem dX12_back_9 : decode cX12_back 9 = .ok (.aload_n 0, 1) := by decide +kernel
theorem dX12_back_10 : decode cX12_back 10 = .ok (.aload_n 0, 1) := by decide +kernel
theorem dX12_back_11 : decode cX12_back 11 = .ok (.getfield 7, 3) := by decide +kernel
theorem dX12_back_14 : decode cX12_back 14 = .ok (.iconst 1, 1) := by decide +kernel
theorem dX12_back_15 : decode cX12_back 15 = .ok (.iload_n 2, 1) := by decide +kernel
theorem dX12_back_16 : decode cX12_back 16 = .ok (.iadd, 1) := by decide +kernel
theorem dX12_back_17 : decode cX12_back 17 = .ok (.iaload, 1) := by decide +kernel
theorem dX12_back_18 : decode cX12_back 18 = .ok (.invokevirtual 188, 3) := by decide +kernel
theorem dX12_back_21 : decode cX12_back 21 = .ok (.istore_n 3, 1) := by decide +kernel
theorem dX12_back_22 : decode cX12_back 22 = .ok (.iload_n 1, 1) := by decide +kernel
theorem dX12_back_23 : decode cX12_back 23 = .ok (.iload_n 1, 1) := by decide +kernel
theorem dX12_back_24 : decode cX12_back 24 = .ok (.iload_n 3, 1) := by decide +kernel
theorem dX12_back_25 : decode cX12_back 25 = .ok (.invokestatic 185, 3) := by decide +kernel
theorem dX12_back_28 : decode cX12_back 28 = .ok (.idiv, 1) := by decide +kernel
theorem dX12_back_29 : decode cX12_back 29 = .ok (.iload_n 3, 1) := by decide +kernel
theorem dX12_back_30 : decode cX12_back 30 = .ok (.imul, 1) := by decide +kernel
theorem dX12_back_31 : decode cX12_back 31 = .ok (.istore_n 1, 1) := by decide +kernel
theorem dX12_back_32 : decode cX12_back 32 = .ok (.iinc 2 1, 3) := by decide +kernel
theorem dX12_back_35 : decode cX12_back 35 = .ok (.goto (-31), 3) := by decide +kernel
theorem dX12_back_38 : decode cX12_back 38 = .ok (.iconst 0, 1) := by decide +kernel
theorem dX12_back_39 : decode cX12_back 39 = .ok (.istore_n 2, 1) := by decide +kernel
theorem dX12_back_40 : decode cX12_back 40 = .ok (.iload_n 2, 1) := by decide +kernel
theorem dX12_back_41 : decode cX12_back 41 = .ok (.aload_n 0, 1) := by decide +kernel
theorem dX12_back_42 : decode cX12_back 42 = .ok (.invokevirtual 68, 3) := by decide +kernel
theorem dX12_back_45 : decode cX12_back 45 = .ok (.if_icmp .ge 30, 3) := by decide +kernel
theorem dX12_back_48 : decode cX12_back 48 = .ok (.aload_n 0, 1) := by decide +kernel
theorem dX12_back_49 : decode cX12_back 49 = .ok (.aload_n 0, 1) := by decide +kernel
theorem dX12_back_50 : decode cX12_back 50 = .ok (.iload_n 2, 1) := by decide +kernel
theorem dX12_back_51 : decode cX12_back 51 = .ok (.iconst 3, 1) := by decide +kernel
theorem dX12_back_52 : decode cX12_back 52 = .ok (.invokevirtual 97, 3) := by decide +kernel
theorem dX12_back_55 : decode cX12_back 55 = .ok (.invokevirtual 188, 3) := by decide +kernel
theorem dX12_back_58 : decode cX12_back 58 = .ok (.istore_n 3, 1) := by decide +kernel
theorem dX12_back_59 : decode cX12_back 59 = .ok (.iload_n 1, 1) := by decide +kernel
theorem dX12_back_60 : decode cX12_back 60 = .ok (.iload_n 1, 1) := by decide +kernel
theorem dX12_back_61 : decode cX12_back 61 = .ok (.iload_n 3, 1) := by decide +kernel
theorem dX12_back_62 : decode cX12_back 62 = .ok (.invokestatic 185, 3) := by decide +kernel
theorem dX12_back_65 : decode cX12_back 65 = .ok (.idiv, 1) := by decide +kernel
theorem dX12_back_66 : decode cX12_back 66 = .ok (.iload_n 3, 1) := by decide +kernel
theorem dX12_back_67 : decode cX12_back 67 = .ok (.imul, 1) := by decide +kernel
theorem dX12_back_68 : decode cX12_back 68 = .ok (.istore_n 1, 1) := by decide +kernel
theorem dX12_back_69 : decode cX12_back 69 = .ok (.iinc 2 1, 3) := by decide +kernel
theorem dX12_back_72 : decode cX12_back 72 = .ok (.goto (-32), 3) := by decide +kernel
theorem dX12_back_75 : decode cX12_back 75 = .ok (.iload_n 1, 1) := by decide +kernel
theorem dX12_back_76 : decode cX12_back 76 = .ok (.ireturn, 1) := by decide +kernel
theorem dX12_told_0 : decode cX12_told 0 = .ok (.iload_n 1, 1) := by decide +kernel
theorem dX12_told_1 : decode cX12_told 1 = .ok (.invokestatic 77, 3) := by decide +kernel
theorem dX12_told_4 : decode cX12_told 4 = .ok (.ifCond .eq 15, 3) := by decide +kernel
theorem dX12_told_7 : decode cX12_told 7 = .ok (.iload_n 2, 1) := by decide +kernel
theorem dX12_told_8 : decode cX12_told 8 = .ok (.i2l, 1) := by decide +kernel
theorem dX12_told_9 : decode cX12_told 9 = .ok (.lconst 0, 1) := by decide +kernel
theorem dX12_told_10 : decode cX12_told 10 = .ok (.ldc2_w 191, 3) := by decide +kernel
theorem dX12_told_13 : decode cX12_told 13 = .ok (.invokestatic 60, 3) := by decide +kernel
theorem dX12_told_16 : decode cX12_told 16 = .ok (.ifCond .ne 10, 3) := by decide +kernel
theorem dX12_told_19 : decode cX12_told 19 = .ok (.aload_n 0, 1) := by decide +kernel
theorem dX12_told_20 : decode cX12_told 20 = .ok (.bipush (-2), 2) := by decide +kernel
theorem dX12_told_22 : decode cX12_told 22 = .ok (.invokevirtual 73, 3) := by decide +kernel
theorem dX12_told_25 : decode cX12_told 25 = .ok (.ireturn, 1) := by decide +kernel
theorem dX12_told_26 : decode cX12_told 26 = .ok (.aload_n 0, 1) := by decide +kernel
theorem dX12_told_27 : decode cX12_told 27 = .ok (.getfield 7, 3) := by decide +kernel
theorem dX12_told_30 : decode cX12_told 30 = .ok (.sipush 143, 3) := by decide +kernel
theorem dX12_told_33 : decode cX12_told 33 = .ok (.iload_n 1, 1) := by decide +kernel
theorem dX12_told_34 : decode cX12_told 34 = .ok (.iadd, 1) := by decide +kernel
theorem dX12_told_35 : decode cX12_told 35 = .ok (.iaload, 1) := by decide +kernel
theorem dX12_told_36 : decode cX12_told 36 = .ok (.istore_n 3, 1) := by decide +kernel
theorem dX12_told_37 : decode cX12_told 37 = .ok (.aload_n 0, 1) := by decide +kernel
theorem dX12_told_38 : decode cX12_told 38 = .ok (.getfield 7, 3) := by decide +kernel
theorem dX12_told_41 : decode cX12_told 41 = .ok (.sipush 143, 3) := by decide +kernel
theorem dX12_told_44 : decode cX12_told 44 = .ok (.iload_n 1, 1) := by decide +kernel
theorem dX12_told_45 : decode cX12_told 45 = .ok (.iadd, 1) := by decide +kernel
theorem dX12_told_46 : decode cX12_told 46 = .ok (.iload_n 2, 1) := by decide +kernel
theorem dX12_told_47 : decode cX12_told 47 = .ok (.iastore, 1) := by decide +kernel
theorem dX12_told_48 : decode cX12_told 48 = .ok (.iload_n 3, 1) := by decide +kernel
theorem dX12_told_49 : decode cX12_told 49 = .ok (.ireturn, 1) := by decide +kernel
theorem dX12_isTold_0 : decode cX12_isTold 0 = .ok (.iconst 1, 1) := by decide +kernel
theorem dX12_isTold_1 : decode cX12_isTold 1 = .ok (.istore_n 3, 1) := by decide +kernel
theorem dX12_isTold_2 : decode cX12_isTold 2 = .ok (.iconst 0, 1) := by decide +kernel
theorem dX12_isTold_3 : decode cX12_isTold 3 = .ok (.istore 4, 2) := by decide +kernel
theorem dX12_isTold_5 : decode cX12_isTold 5 = .ok (.iload 4, 2) := by decide +kernel
theorem dX12_isTold_7 : decode cX12_isTold 7 = .ok (.iconst 5, 1) := by decide +kernel
theorem dX12_isTold_8 : decode cX12_isTold 8 = .ok (.if_icmp .ge 52, 3) := by decide +kernel
theorem dX12_isTold_11 : decode cX12_isTold 11 = .ok (.iload_n 3, 1) := by decide +kernel
theorem dX12_isTold_12 : decode cX12_isTold 12 = .ok (.ifCond .eq 40, 3) := by decide +kernel
theorem dX12_isTold_15 : decode cX12_isTold 15 = .ok (.aload_n 0, 1) := by decide +kernel
theorem dX12_isTold_16 : decode cX12_isTold 16 = .ok (.getfield 39, 3) := by decide +kernel
theorem dX12_isTold_19 : decode cX12_isTold 19 = .ok (.iload 4, 2) := by decide +kernel
theorem dX12_isTold_21 : decode cX12_isTold 21 = .ok (.iaload, 1) := by decide +kernel
theorem dX12_isTold_22 : decode cX12_isTold 22 = .ok (.iload 4, 2) := by decide +kernel
theorem dX12_isTold_24 : decode cX12_isTold 24 = .ok (.iload_n 1, 1) := by decide +kernel
theorem dX12_isTold_25 : decode cX12_isTold 25 = .ok (.if_icmp .ne 7, 3) := by decide +kernel
theorem dX12_isTold_28 : decode cX12_isTold 28 = .ok (.iload_n 2, 1) := by decide +kernel
theorem dX12_isTold_29 : decode cX12_isTold 29 = .ok (.goto 4, 3) := by decide +kernel
theorem dX12_isTold_32 : decode cX12_isTold 32 = .ok (.iconst 0, 1) := by decide +kernel
theorem dX12_isTold_33 : decode cX12_isTold 33 = .ok (.isub, 1) := by decide +kernel
theorem dX12_isTold_34 : decode cX12_isTold 34 = .ok (.aload_n 0, 1) := by decide +kernel
theorem dX12_isTold_35 : decode cX12_isTold 35 = .ok (.getfield 7, 3) := by decide +kernel
theorem dX12_isTold_38 : decode cX12_isTold 38 = .ok (.sipush 143, 3) := by decide +kernel
theorem dX12_isTold_41 : decode cX12_isTold 41 = .ok (.iload 4, 2) := by decide +kernel
theorem dX12_isTold_43 : decode cX12_isTold 43 = .ok (.iadd, 1) := by decide +kernel
theorem dX12_isTold_44 : decode cX12_isTold 44 = .ok (.iaload, 1) := by decide +kernel
theorem dX12_isTold_45 : decode cX12_isTold 45 = .ok (.if_icmp .ne 7, 3) := by decide +kernel
theorem dX12_isTold_48 : decode cX12_isTold 48 = .ok (.iconst 1, 1) := by decide +kernel
theorem dX12_isTold_49 : decode cX12_isTold 49 = .ok (.goto 4, 3) := by decide +kernel
theorem dX12_isTold_52 : decode cX12_isTold 52 = .ok (.iconst 0, 1) := by decide +kernel
theorem dX12_isTold_53 : decode cX12_isTold 53 = .ok (.istore_n 3, 1) := by decide +kernel
theorem dX12_isTold_54 : decode cX12_isTold 54 = .ok (.iinc 4 1, 3) := by decide +kernel
theorem dX12_isTold_57 : decode cX12_isTold 57 = .ok (.goto (-52), 3) := by decide +kernel
theorem dX12_isTold_60 : decode cX12_isTold 60 = .ok (.iload_n 3, 1) := by decide +kernel
theorem dX12_isTold_61 : decode cX12_isTold 61 = .ok (.ireturn, 1) := by decide +kernel
theorem dX12_taken_0 : decode cX12_taken 0 = .ok (.iload_n 1, 1) := by decide +kernel
theorem dX12_taken_1 : decode cX12_taken 1 = .ok (.invokestatic 163, 3) := by decide +kernel
theorem dX12_taken_4 : decode cX12_taken 4 = .ok (.ifCond .eq 8, 3) := by decide +kernel
theorem dX12_taken_7 : decode cX12_taken 7 = .ok (.iload_n 2, 1) := by decide +kernel
theorem dX12_taken_8 : decode cX12_taken 8 = .ok (.iconst (-1), 1) := by decide +kernel
theorem dX12_taken_9 : decode cX12_taken 9 = .ok (.if_icmp .ge 10, 3) := by decide +kernel
theorem dX12_taken_12 : decode cX12_taken 12 = .ok (.aload_n 0, 1) := by decide +kernel
theorem dX12_taken_13 : decode cX12_taken 13 = .ok (.bipush (-10), 2) := by decide +kernel
theorem dX12_taken_15 : decode cX12_taken 15 = .ok (.invokevirtual 73, 3) := by decide +kernel
theorem dX12_taken_18 : decode cX12_taken 18 = .ok (.ireturn, 1) := by decide +kernel
theorem dX12_taken_19 : decode cX12_taken 19 = .ok (.aload_n 0, 1) := by decide +kernel
theorem dX12_taken_20 : decode cX12_taken 20 = .ok (.iload_n 1, 1) := by decide +kernel
theorem dX12_taken_21 : decode cX12_taken 21 = .ok (.aload_n 0, 1) := by decide +kernel
theorem dX12_taken_22 : decode cX12_taken 22 = .ok (.invokevirtual 127, 3) := by decide +kernel
theorem dX12_taken_25 : decode cX12_taken 25 = .ok (.invokevirtual 172, 3) := by decide +kernel
theorem dX12_taken_28 : decode cX12_taken 28 = .ok (.istore_n 3, 1) := by decide +kernel
theorem dX12_taken_29 : decode cX12_taken 29 = .ok (.iconst 0, 1) := by decide +kernel
theorem dX12_taken_30 : decode cX12_taken 30 = .ok (.istore 4, 2) := by decide +kernel
theorem dX12_taken_32 : decode cX12_taken 32 = .ok (.iload 4, 2) := by decide +kernel
theorem dX12_taken_34 : decode cX12_taken 34 = .ok (.iconst 5, 1) := by decide +kernel
theorem dX12_taken_35 : decode cX12_taken 35 = .ok (.if_icmp .ge 32, 3) := by decide +kernel
theorem dX12_taken_38 : decode cX12_taken 38 = .ok (.aload_n 0, 1) := by decide +kernel
theorem dX12_taken_39 : decode cX12_taken 39 = .ok (.getfield 39, 3) := by decide +kernel
theorem dX12_taken_42 : decode cX12_taken 42 = .ok (.iload 4, 2) := by decide +kernel
theorem dX12_taken_44 : decode cX12_taken 44 = .ok (.aload_n 0, 1) := by decide +kernel
theorem dX12_taken_45 : decode cX12_taken 45 = .ok (.getfield 27, 3) := by decide +kernel
theorem dX12_taken_48 : decode cX12_taken 48 = .ok (.bipush 24, 2) := by decide +kernel
theorem dX12_taken_50 : decode cX12_taken 50 = .ok (.iload 4, 2) := by decide +kernel
theorem dX12_taken_52 : decode cX12_taken 52 = .ok (.imul, 1) := by decide +kernel
theorem dX12_taken_53 : decode cX12_taken 53 = .ok (.aload_n 0, 1) := by decide +kernel
theorem dX12_taken_54 : decode cX12_taken 54 = .ok (.invokevirtual 64, 3) := by decide +kernel
theorem dX12_taken_57 : decode cX12_taken 57 = .ok (.invokestatic 140, 3) := by decide +kernel
theorem dX12_taken_60 : decode cX12_taken 60 = .ok (.iastore, 1) := by decide +kernel
theorem dX12_taken_61 : decode cX12_taken 61 = .ok (.iinc 4 1, 3) := by decide +kernel
theorem dX12_taken_64 : decode cX12_taken 64 = .ok (.goto (-32), 3) := by decide +kernel
theorem dX12_taken_67 : decode cX12_taken 67 = .ok (.iconst 0, 1) := by decide +kernel
theorem dX12_taken_68 : decode cX12_taken 68 = .ok (.istore 4, 2) := by decide +kernel
theorem dX12_taken_70 : decode cX12_taken 70 = .ok (.bipush (-5), 2) := by decide +kernel
theorem dX12_taken_72 : decode cX12_taken 72 = .ok (.istore 5, 2) := by decide +kernel
theorem dX12_taken_74 : decode cX12_taken 74 = .ok (.iconst 0, 1) := by decide +kernel
theorem dX12_taken_75 : decode cX12_taken 75 = .ok (.istore 6, 2) := by decide +kernel
theorem dX12_taken_77 : decode cX12_taken 77 = .ok (.iload 6, 2) := by decide +kernel
theorem dX12_taken_79 : decode cX12_taken 79 = .ok (.bipush 120, 2) := by decide +kernel
theorem dX12_taken_81 : decode cX12_taken 81 = .ok (.if_icmp .ge 98, 3) := by decide +kernel
theorem dX12_taken_84 : decode cX12_taken 84 = .ok (.aload_n 0, 1) := by decide +kernel
theorem dX12_taken_85 : decode cX12_taken 85 = .ok (.getfield 7, 3) := by decide +kernel
theorem dX12_taken_88 : decode cX12_taken 88 = .ok (.bipush 6, 2) := by decide +kernel
theorem dX12_taken_90 : decode cX12_taken 90 = .ok (.iload 6, 2) := by decide +kernel
theorem dX12_taken_92 : decode cX12_taken 92 = .ok (.iadd, 1) := by decide +kernel
theorem dX12_taken_93 : decode cX12_taken 93 = .ok (.iaload, 1) := by decide +kernel
theorem dX12_taken_94 : decode cX12_taken 94 = .ok (.istore 7, 2) := by decide +kernel
theorem dX12_taken_96 : decode cX12_taken 96 = .ok (.iload 7, 2) := by decide +kernel
theorem dX12_taken_98 : decode cX12_taken 98 = .ok (.ifCond .le 75, 3) := by decide +kernel
theorem dX12_taken_101 : decode cX12_taken 101 = .ok (.aload_n 0, 1) := by decide +kernel
theorem dX12_taken_102 : decode cX12_taken 102 = .ok (.iload 6, 2) := by decide +kernel
theorem dX12_taken_104 : decode cX12_taken 104 = .ok (.bipush 24, 2) := by decide +kernel
theorem dX12_taken_106 : decode cX12_taken 106 = .ok (.idiv, 1) := by decide +kernel
theorem dX12_taken_107 : decode cX12_taken 107 = .ok (.iload 6, 2) := by decide +kernel
theorem dX12_taken_109 : decode cX12_taken 109 = .ok (.bipush 24, 2) := by decide +kernel
theorem dX12_taken_111 : decode cX12_taken 111 = .ok (.irem, 1) := by decide +kernel
theorem dX12_taken_112 : decode cX12_taken 112 = .ok (.iload_n 1, 1) := by decide +kernel
theorem dX12_taken_113 : decode cX12_taken 113 = .ok (.invokevirtual 168, 3) := by decide +kernel
theorem dX12_taken_116 : decode cX12_taken 116 = .ok (.aload_n 0, 1) := by decide +kernel
theorem dX12_taken_117 : decode cX12_taken 117 = .ok (.aload_n 0, 1) := by decide +kernel
theorem dX12_taken_118 : decode cX12_taken 118 = .ok (.getfield 152, 3) := by decide +kernel
theorem dX12_taken_121 : decode cX12_taken 121 = .ok (.invokestatic 77, 3) := by decide +kernel
theorem dX12_taken_124 : decode cX12_taken 124 = .ok (.ifCond .eq 10, 3) := by decide +kernel
theorem dX12_taken_127 : decode cX12_taken 127 = .ok (.aload_n 0, 1) := by decide +kernel
theorem dX12_taken_128 : decode cX12_taken 128 = .ok (.getfield 152, 3) := by decide +kernel
theorem dX12_taken_131 : decode cX12_taken 131 = .ok (.goto 4, 3) := by decide +kernel
theorem dX12_taken_134 : decode cX12_taken 134 = .ok (.iconst (-1), 1) := by decide +kernel
theorem dX12_taken_135 : decode cX12_taken 135 = .ok (.iload 7, 2) := by decide +kernel
theorem dX12_taken_137 : decode cX12_taken 137 = .ok (.invokevirtual 193, 3) := by decide +kernel
theorem dX12_taken_140 : decode cX12_taken 140 = .ok (.ifCond .eq 33, 3) := by decide +kernel
theorem dX12_taken_143 : decode cX12_taken 143 = .ok (.iload 4, 2) := by decide +kernel
theorem dX12_taken_145 : decode cX12_taken 145 = .ok (.iload_n 2, 1) := by decide +kernel
theorem dX12_taken_146 : decode cX12_taken 146 = .ok (.if_icmp .ne 20, 3) := by decide +kernel
theorem dX12_taken_149 : decode cX12_taken 149 = .ok (.bipush 100, 2) := by decide +kernel
theorem dX12_taken_151 : decode cX12_taken 151 = .ok (.iload 6, 2) := by decide +kernel
theorem dX12_taken_153 : decode cX12_taken 153 = .ok (.bipush 24, 2) := by decide +kernel
theorem dX12_taken_155 : decode cX12_taken 155 = .ok (.idiv, 1) := by decide +kernel
theorem dX12_taken_156 : decode cX12_taken 156 = .ok (.imul, 1) := by decide +kernel
theorem dX12_taken_157 : decode cX12_taken 157 = .ok (.iload 6, 2) := by decide +kernel
theorem dX12_taken_159 : decode cX12_taken 159 = .ok (.bipush 24, 2) := by decide +kernel
theorem dX12_taken_161 : decode cX12_taken 161 = .ok (.irem, 1) := by decide +kernel
theorem dX12_taken_162 : decode cX12_taken 162 = .ok (.iadd, 1) := by decide +kernel
theorem dX12_taken_163 : decode cX12_taken 163 = .ok (.goto 5, 3) := by decide +kernel
theorem dX12_taken_166 : decode cX12_taken 166 = .ok (.iload 5, 2) := by decide +kernel
theorem dX12_taken_168 : decode cX12_taken 168 = .ok (.istore 5, 2) := by decide +kernel
theorem dX12_taken_170 : decode cX12_taken 170 = .ok (.iinc 4 1, 3) := by decide +kernel
theorem dX12_taken_173 : decode cX12_taken 173 = .ok (.iinc 6 1, 3) := by decide +kernel
theorem dX12_taken_176 : decode cX12_taken 176 = .ok (.goto (-99), 3) := by decide +kernel
theorem dX12_taken_179 : decode cX12_taken 179 = .ok (.iload_n 2, 1) := by decide +kernel
theorem dX12_taken_180 : decode cX12_taken 180 = .ok (.iconst (-1), 1) := by decide +kernel
theorem dX12_taken_181 : decode cX12_taken 181 = .ok (.if_icmp .ne 8, 3) := by decide +kernel
theorem dX12_taken_184 : decode cX12_taken 184 = .ok (.iload 4, 2) := by decide +kernel
theorem dX12_taken_186 : decode cX12_taken 186 = .ok (.goto 5, 3) := by decide +kernel
theorem dX12_taken_189 : decode cX12_taken 189 = .ok (.iload 5, 2) := by decide +kernel
theorem dX12_taken_191 : decode cX12_taken 191 = .ok (.ireturn, 1) := by decide +kernel
theorem dX12_laneSum_0 : decode cX12_laneSum 0 = .ok (.aload_n 0, 1) := by decide +kernel
theorem dX12_laneSum_1 : decode cX12_laneSum 1 = .ok (.getfield 7, 3) := by decide +kernel
theorem dX12_laneSum_4 : decode cX12_laneSum 4 = .ok (.bipush 6, 2) := by decide +kernel
theorem dX12_laneSum_6 : decode cX12_laneSum 6 = .ok (.bipush 24, 2) := by decide +kernel
theorem dX12_laneSum_8 : decode cX12_laneSum 8 = .ok (.iload_n 1, 1) := by decide +kernel
theorem dX12_laneSum_9 : decode cX12_laneSum 9 = .ok (.imul, 1) := by decide +kernel
theorem dX12_laneSum_10 : decode cX12_laneSum 10 = .ok (.iadd, 1) := by decide +kernel
theorem dX12_laneSum_11 : decode cX12_laneSum 11 = .ok (.aload_n 0, 1) := by decide +kernel
theorem dX12_laneSum_12 : decode cX12_laneSum 12 = .ok (.invokevirtual 64, 3) := by decide +kernel
theorem dX12_laneSum_15 : decode cX12_laneSum 15 = .ok (.invokestatic 140, 3) := by decide +kernel
theorem dX12_laneSum_18 : decode cX12_laneSum 18 = .ok (.ireturn, 1) := by decide +kernel
theorem dX12_game_0 : decode cX12_game 0 = .ok (.iload_n 1, 1) := by decide +kernel
theorem dX12_game_1 : decode cX12_game 1 = .ok (.i2l, 1) := by decide +kernel
theorem dX12_game_2 : decode cX12_game 2 = .ok (.lconst 1, 1) := by decide +kernel
theorem dX12_game_3 : decode cX12_game 3 = .ok (.ldc2_w 196, 3) := by decide +kernel
theorem dX12_game_6 : decode cX12_game 6 = .ok (.invokestatic 60, 3) := by decide +kernel
theorem dX12_game_9 : decode cX12_game 9 = .ok (.ifCond .eq 13, 3) := by decide +kernel
theorem dX12_game_12 : decode cX12_game 12 = .ok (.iload_n 2, 1) := by decide +kernel
theorem dX12_game_13 : decode cX12_game 13 = .ok (.i2l, 1) := by decide +kernel
theorem dX12_game_14 : decode cX12_game 14 = .ok (.lconst 0, 1) := by decide +kernel
theorem dX12_game_15 : decode cX12_game 15 = .ok (.lconst 1, 1) := by decide +kernel
theorem dX12_game_16 : decode cX12_game 16 = .ok (.invokestatic 60, 3) := by decide +kernel
theorem dX12_game_19 : decode cX12_game 19 = .ok (.ifCond .ne 10, 3) := by decide +kernel
theorem dX12_game_22 : decode cX12_game 22 = .ok (.aload_n 0, 1) := by decide +kernel
theorem dX12_game_23 : decode cX12_game 23 = .ok (.ldc 198, 2) := by decide +kernel
theorem dX12_game_25 : decode cX12_game 25 = .ok (.invokevirtual 73, 3) := by decide +kernel
theorem dX12_game_28 : decode cX12_game 28 = .ok (.ireturn, 1) := by decide +kernel
theorem dX12_game_29 : decode cX12_game 29 = .ok (.iconst 0, 1) := by decide +kernel
theorem dX12_game_30 : decode cX12_game 30 = .ok (.istore_n 3, 1) := by decide +kernel
theorem dX12_game_31 : decode cX12_game 31 = .ok (.iconst 0, 1) := by decide +kernel
theorem dX12_game_32 : decode cX12_game 32 = .ok (.istore 4, 2) := by decide +kernel
theorem dX12_game_34 : decode cX12_game 34 = .ok (.iload 4, 2) := by decide +kernel
theorem dX12_game_36 : decode cX12_game 36 = .ok (.iconst 5, 1) := by decide +kernel
theorem dX12_game_37 : decode cX12_game 37 = .ok (.if_icmp .ge 29, 3) := by decide +kernel
theorem dX12_game_40 : decode cX12_game 40 = .ok (.iload_n 3, 1) := by decide +kernel
theorem dX12_game_41 : decode cX12_game 41 = .ok (.aload_n 0, 1) := by decide +kernel
theorem dX12_game_42 : decode cX12_game 42 = .ok (.iload 4, 2) := by decide +kernel
theorem dX12_game_44 : decode cX12_game 44 = .ok (.invokevirtual 199, 3) := by decide +kernel
theorem dX12_game_47 : decode cX12_game 47 = .ok (.ifCond .le 10, 3) := by decide +kernel
theorem dX12_game_50 : decode cX12_game 50 = .ok (.iconst 1, 1) := by decide +kernel
theorem dX12_game_51 : decode cX12_game 51 = .ok (.iload 4, 2) := by decide +kernel
theorem dX12_game_53 : decode cX12_game 53 = .ok (.ishl, 1) := by decide +kernel
theorem dX12_game_54 : decode cX12_game 54 = .ok (.goto 4, 3) := by decide +kernel
theorem dX12_game_57 : decode cX12_game 57 = .ok (.iconst 0, 1) := by decide +kernel
theorem dX12_game_58 : decode cX12_game 58 = .ok (.ior, 1) := by decide +kernel
theorem dX12_game_59 : decode cX12_game 59 = .ok (.istore_n 3, 1) := by decide +kernel
theorem dX12_game_60 : decode cX12_game 60 = .ok (.iinc 4 1, 3) := by decide +kernel
theorem dX12_game_63 : decode cX12_game 63 = .ok (.goto (-29), 3) := by decide +kernel
theorem dX12_game_66 : decode cX12_game 66 = .ok (.iconst (-1), 1) := by decide +kernel
theorem dX12_game_67 : decode cX12_game 67 = .ok (.istore 4, 2) := by decide +kernel
theorem dX12_game_69 : decode cX12_game 69 = .ok (.iconst 0, 1) := by decide +kernel
theorem dX12_game_70 : decode cX12_game 70 = .ok (.istore 5, 2) := by decide +kernel
theorem dX12_game_72 : decode cX12_game 72 = .ok (.iload 5, 2) := by decide +kernel
theorem dX12_game_74 : decode cX12_game 74 = .ok (.bipush 32, 2) := by decide +kernel
theorem dX12_game_76 : decode cX12_game 76 = .ok (.if_icmp .ge 17, 3) := by decide +kernel
theorem dX12_game_79 : decode cX12_game 79 = .ok (.aload_n 0, 1) := by decide +kernel
theorem dX12_game_80 : decode cX12_game 80 = .ok (.getfield 42, 3) := by decide +kernel
theorem dX12_game_83 : decode cX12_game 83 = .ok (.iload 5, 2) := by decide +kernel
theorem dX12_game_85 : decode cX12_game 85 = .ok (.iconst 0, 1) := by decide +kernel
theorem dX12_game_86 : decode cX12_game 86 = .ok (.iastore, 1) := by decide +kernel
theorem dX12_game_87 : decode cX12_game 87 = .ok (.iinc 5 1, 3) := by decide +kernel
theorem dX12_game_90 : decode cX12_game 90 = .ok (.goto (-18), 3) := by decide +kernel
theorem dX12_game_93 : decode cX12_game 93 = .ok (.iconst 1, 1) := by decide +kernel
theorem dX12_game_94 : decode cX12_game 94 = .ok (.istore 5, 2) := by decide +kernel
theorem dX12_game_96 : decode cX12_game 96 = .ok (.iload 5, 2) := by decide +kernel
theorem dX12_game_98 : decode cX12_game 98 = .ok (.iload_n 1, 1) := by decide +kernel
theorem dX12_game_99 : decode cX12_game 99 = .ok (.if_icmp .gt 205, 3) := by decide +kernel
theorem dX12_game_102 : decode cX12_game 102 = .ok (.iconst 0, 1) := by decide +kernel
theorem dX12_game_103 : decode cX12_game 103 = .ok (.istore 6, 2) := by decide +kernel
theorem dX12_game_105 : decode cX12_game 105 = .ok (.iload 6, 2) := by decide +kernel
theorem dX12_game_107 : decode cX12_game 107 = .ok (.bipush 32, 2) := by decide +kernel
theorem dX12_game_109 : decode cX12_game 109 = .ok (.if_icmp .ge 189, 3) := by decide +kernel
theorem dX12_game_112 : decode cX12_game 112 = .ok (.iload 6, 2) := by decide +kernel
theorem dX12_game_114 : decode cX12_game 114 = .ok (.ifCond .ne 19, 3) := by decide +kernel
theorem dX12_game_117 : decode cX12_game 117 = .ok (.aload_n 0, 1) := by decide +kernel
theorem dX12_game_118 : decode cX12_game 118 = .ok (.getfield 42, 3) := by decide +kernel
theorem dX12_game_121 : decode cX12_game 121 = .ok (.bipush 32, 2) := by decide +kernel
theorem dX12_game_123 : decode cX12_game 123 = .ok (.iload 5, 2) := by decide +kernel
theorem dX12_game_125 : decode cX12_game 125 = .ok (.iconst 1, 1) := by decide +kernel
theorem dX12_game_126 : decode cX12_game 126 = .ok (.isub, 1) := by decide +kernel
theorem dX12_game_127 : decode cX12_game 127 = .ok (.imul, 1) := by decide +kernel
theorem dX12_game_128 : decode cX12_game 128 = .ok (.iaload, 1) := by decide +kernel
theorem dX12_game_129 : decode cX12_game 129 = .ok (.ineg, 1) := by decide +kernel
theorem dX12_game_130 : decode cX12_game 130 = .ok (.goto 5, 3) := by decide +kernel
theorem dX12_game_133 : decode cX12_game 133 = .ok (.ldc 202, 2) := by decide +kernel
theorem dX12_game_135 : decode cX12_game 135 = .ok (.istore 7, 2) := by decide +kernel
theorem dX12_game_137 : decode cX12_game 137 = .ok (.iconst (-1), 1) := by decide +kernel
theorem dX12_game_138 : decode cX12_game 138 = .ok (.istore 8, 2) := by decide +kernel
theorem dX12_game_140 : decode cX12_game 140 = .ok (.iconst 0, 1) := by decide +kernel
theorem dX12_game_141 : decode cX12_game 141 = .ok (.istore 9, 2) := by decide +kernel
theorem dX12_game_143 : decode cX12_game 143 = .ok (.iload 9, 2) := by decide +kernel
theorem dX12_game_145 : decode cX12_game 145 = .ok (.iconst 5, 1) := by decide +kernel
theorem dX12_game_146 : decode cX12_game 146 = .ok (.if_icmp .ge 110, 3) := by decide +kernel
theorem dX12_game_149 : decode cX12_game 149 = .ok (.iload 6, 2) := by decide +kernel
theorem dX12_game_151 : decode cX12_game 151 = .ok (.iload 9, 2) := by decide +kernel
theorem dX12_game_153 : decode cX12_game 153 = .ok (.ishr, 1) := by decide +kernel
theorem dX12_game_154 : decode cX12_game 154 = .ok (.iconst 1, 1) := by decide +kernel
theorem dX12_game_155 : decode cX12_game 155 = .ok (.iand, 1) := by decide +kernel
theorem dX12_game_156 : decode cX12_game 156 = .ok (.iconst 1, 1) := by decide +kernel
theorem dX12_game_157 : decode cX12_game 157 = .ok (.if_icmp .ne 7, 3) := by decide +kernel
theorem dX12_game_160 : decode cX12_game 160 = .ok (.iconst 1, 1) := by decide +kernel
theorem dX12_game_161 : decode cX12_game 161 = .ok (.goto 4, 3) := by decide +kernel
theorem dX12_game_164 : decode cX12_game 164 = .ok (.iconst 0, 1) := by decide +kernel
theorem dX12_game_165 : decode cX12_game 165 = .ok (.istore 10, 2) := by decide +kernel
theorem dX12_game_167 : decode cX12_game 167 = .ok (.iload 10, 2) := by decide +kernel
theorem dX12_game_169 : decode cX12_game 169 = .ok (.ifCond .eq 35, 3) := by decide +kernel
theorem dX12_game_172 : decode cX12_game 172 = .ok (.aload_n 0, 1) := by decide +kernel
theorem dX12_game_173 : decode cX12_game 173 = .ok (.iload 9, 2) := by decide +kernel
theorem dX12_game_175 : decode cX12_game 175 = .ok (.invokevirtual 199, 3) := by decide +kernel
theorem dX12_game_178 : decode cX12_game 178 = .ok (.aload_n 0, 1) := by decide +kernel
theorem dX12_game_179 : decode cX12_game 179 = .ok (.getfield 42, 3) := by decide +kernel
theorem dX12_game_182 : decode cX12_game 182 = .ok (.bipush 32, 2) := by decide +kernel
theorem dX12_game_184 : decode cX12_game 184 = .ok (.iload 5, 2) := by decide +kernel
theorem dX12_game_186 : decode cX12_game 186 = .ok (.iconst 1, 1) := by decide +kernel
theorem dX12_game_187 : decode cX12_game 187 = .ok (.isub, 1) := by decide +kernel
theorem dX12_game_188 : decode cX12_game 188 = .ok (.imul, 1) := by decide +kernel
theorem dX12_game_189 : decode cX12_game 189 = .ok (.iload 6, 2) := by decide +kernel
theorem dX12_game_191 : decode cX12_game 191 = .ok (.iconst 1, 1) := by decide +kernel
theorem dX12_game_192 : decode cX12_game 192 = .ok (.iload 9, 2) := by decide +kernel
theorem dX12_game_194 : decode cX12_game 194 = .ok (.ishl, 1) := by decide +kernel
theorem dX12_game_195 : decode cX12_game 195 = .ok (.iconst (-1), 1) := by decide +kernel
theorem dX12_game_196 : decode cX12_game 196 = .ok (.ixor, 1) := by decide +kernel
theorem dX12_game_197 : decode cX12_game 197 = .ok (.iand, 1) := by decide +kernel
theorem dX12_game_198 : decode cX12_game 198 = .ok (.iadd, 1) := by decide +kernel
theorem dX12_game_199 : decode cX12_game 199 = .ok (.iaload, 1) := by decide +kernel
theorem dX12_game_200 : decode cX12_game 200 = .ok (.isub, 1) := by decide +kernel
theorem dX12_game_201 : decode cX12_game 201 = .ok (.goto 5, 3) := by decide +kernel
theorem dX12_game_204 : decode cX12_game 204 = .ok (.ldc 202, 2) := by decide +kernel
theorem dX12_game_206 : decode cX12_game 206 = .ok (.istore 11, 2) := by decide +kernel
theorem dX12_game_208 : decode cX12_game 208 = .ok (.iload 10, 2) := by decide +kernel
theorem dX12_game_210 : decode cX12_game 210 = .ok (.ifCond .eq 15, 3) := by decide +kernel
theorem dX12_game_213 : decode cX12_game 213 = .ok (.iload 11, 2) := by decide +kernel
theorem dX12_game_215 : decode cX12_game 215 = .ok (.iload 7, 2) := by decide +kernel
theorem dX12_game_217 : decode cX12_game 217 = .ok (.if_icmp .le 8, 3) := by decide +kernel
theorem dX12_game_220 : decode cX12_game 220 = .ok (.iload 9, 2) := by decide +kernel
theorem dX12_game_222 : decode cX12_game 222 = .ok (.goto 5, 3) := by decide +kernel
theorem dX12_game_225 : decode cX12_game 225 = .ok (.iload 8, 2) := by decide +kernel
theorem dX12_game_227 : decode cX12_game 227 = .ok (.istore 8, 2) := by decide +kernel
theorem dX12_game_229 : decode cX12_game 229 = .ok (.iload 10, 2) := by decide +kernel
theorem dX12_game_231 : decode cX12_game 231 = .ok (.ifCond .eq 15, 3) := by decide +kernel
theorem dX12_game_234 : decode cX12_game 234 = .ok (.iload 11, 2) := by decide +kernel
theorem dX12_game_236 : decode cX12_game 236 = .ok (.iload 7, 2) := by decide +kernel
theorem dX12_game_238 : decode cX12_game 238 = .ok (.if_icmp .le 8, 3) := by decide +kernel
theorem dX12_game_241 : decode cX12_game 241 = .ok (.iload 11, 2) := by decide +kernel
theorem dX12_game_243 : decode cX12_game 243 = .ok (.goto 5, 3) := by decide +kernel
theorem dX12_game_246 : decode cX12_game 246 = .ok (.iload 7, 2) := by decide +kernel
theorem dX12_game_248 : decode cX12_game 248 = .ok (.istore 7, 2) := by decide +kernel
theorem dX12_game_250 : decode cX12_game 250 = .ok (.iinc 9 1, 3) := by decide +kernel
theorem dX12_game_253 : decode cX12_game 253 = .ok (.goto (-110), 3) := by decide +kernel
theorem dX12_game_256 : decode cX12_game 256 = .ok (.aload_n 0, 1) := by decide +kernel
theorem dX12_game_257 : decode cX12_game 257 = .ok (.getfield 42, 3) := by decide +kernel
theorem dX12_game_260 : decode cX12_game 260 = .ok (.bipush 32, 2) := by decide +kernel
theorem dX12_game_262 : decode cX12_game 262 = .ok (.iload 5, 2) := by decide +kernel
theorem dX12_game_264 : decode cX12_game 264 = .ok (.imul, 1) := by decide +kernel
theorem dX12_game_265 : decode cX12_game 265 = .ok (.iload 6, 2) := by decide +kernel
theorem dX12_game_267 : decode cX12_game 267 = .ok (.iadd, 1) := by decide +kernel
theorem dX12_game_268 : decode cX12_game 268 = .ok (.iload 7, 2) := by decide +kernel
theorem dX12_game_270 : decode cX12_game 270 = .ok (.iastore, 1) := by decide +kernel
theorem dX12_game_271 : decode cX12_game 271 = .ok (.iload 5, 2) := by decide +kernel
theorem dX12_game_273 : decode cX12_game 273 = .ok (.iload_n 1, 1) := by decide +kernel
theorem dX12_game_274 : decode cX12_game 274 = .ok (.if_icmp .ne 14, 3) := by decide +kernel
theorem dX12_game_277 : decode cX12_game 277 = .ok (.iload 6, 2) := by decide +kernel
theorem dX12_game_279 : decode cX12_game 279 = .ok (.iload_n 3, 1) := by decide +kernel
theorem dX12_game_280 : decode cX12_game 280 = .ok (.if_icmp .ne 8, 3) := by decide +kernel
theorem dX12_game_283 : decode cX12_game 283 = .ok (.iload 8, 2) := by decide +kernel
theorem dX12_game_285 : decode cX12_game 285 = .ok (.goto 5, 3) := by decide +kernel
theorem dX12_game_288 : decode cX12_game 288 = .ok (.iload 4, 2) := by decide +kernel
theorem dX12_game_290 : decode cX12_game 290 = .ok (.istore 4, 2) := by decide +kernel
theorem dX12_game_292 : decode cX12_game 292 = .ok (.iinc 6 1, 3) := by decide +kernel
theorem dX12_game_295 : decode cX12_game 295 = .ok (.goto (-190), 3) := by decide +kernel
theorem dX12_game_298 : decode cX12_game 298 = .ok (.iinc 5 1, 3) := by decide +kernel
theorem dX12_game_301 : decode cX12_game 301 = .ok (.goto (-205), 3) := by decide +kernel
theorem dX12_game_304 : decode cX12_game 304 = .ok (.iload_n 2, 1) := by decide +kernel
theorem dX12_game_305 : decode cX12_game 305 = .ok (.ifCond .ne 17, 3) := by decide +kernel
theorem dX12_game_308 : decode cX12_game 308 = .ok (.aload_n 0, 1) := by decide +kernel
theorem dX12_game_309 : decode cX12_game 309 = .ok (.getfield 42, 3) := by decide +kernel
theorem dX12_game_312 : decode cX12_game 312 = .ok (.bipush 32, 2) := by decide +kernel
theorem dX12_game_314 : decode cX12_game 314 = .ok (.iload_n 1, 1) := by decide +kernel
theorem dX12_game_315 : decode cX12_game 315 = .ok (.imul, 1) := by decide +kernel
theorem dX12_game_316 : decode cX12_game 316 = .ok (.iload_n 3, 1) := by decide +kernel
theorem dX12_game_317 : decode cX12_game 317 = .ok (.iadd, 1) := by decide +kernel
theorem dX12_game_318 : decode cX12_game 318 = .ok (.iaload, 1) := by decide +kernel
theorem dX12_game_319 : decode cX12_game 319 = .ok (.goto 5, 3) := by decide +kernel
theorem dX12_game_322 : decode cX12_game 322 = .ok (.iload 4, 2) := by decide +kernel
theorem dX12_game_324 : decode cX12_game 324 = .ok (.ireturn, 1) := by decide +kernel
theorem dX12_factorial_0 : decode cX12_factorial 0 = .ok (.iconst 1, 1) := by decide +kernel
theorem dX12_factorial_1 : decode cX12_factorial 1 = .ok (.istore_n 1, 1) := by decide +kernel
theorem dX12_factorial_2 : decode cX12_factorial 2 = .ok (.iconst 2, 1) := by decide +kernel
theorem dX12_factorial_3 : decode cX12_factorial 3 = .ok (.istore_n 2, 1) := by decide +kernel
theorem dX12_factorial_4 : decode cX12_factorial 4 = .ok (.iload_n 2, 1) := by decide +kernel
theorem dX12_factorial_5 : decode cX12_factorial 5 = .ok (.iload_n 0, 1) := by decide +kernel
theorem dX12_factorial_6 : decode cX12_factorial 6 = .ok (.if_icmp .gt 13, 3) := by decide +kernel
theorem dX12_factorial_9 : decode cX12_factorial 9 = .ok (.iload_n 1, 1) := by decide +kernel
theorem dX12_factorial_10 : decode cX12_factorial 10 = .ok (.iload_n 2, 1) := by decide +kernel
theorem dX12_factorial_11 : decode cX12_factorial 11 = .ok (.imul, 1) := by decide +kernel
theorem dX12_factorial_12 : decode cX12_factorial 12 = .ok (.istore_n 1, 1) := by decide +kernel
theorem dX12_factorial_13 : decode cX12_factorial 13 = .ok (.iinc 2 1, 3) := by decide +kernel
theorem dX12_factorial_16 : decode cX12_factorial 16 = .ok (.goto (-12), 3) := by decide +kernel
theorem dX12_factorial_19 : decode cX12_factorial 19 = .ok (.iload_n 1, 1) := by decide +kernel
theorem dX12_factorial_20 : decode cX12_factorial 20 = .ok (.ireturn, 1) := by decide +kernel
theorem dX12_fee_0 : decode cX12_fee 0 = .ok (.aload_n 0, 1) := by decide +kernel
theorem dX12_fee_1 : decode cX12_fee 1 = .ok (.iload_n 1, 1) := by decide +kernel
theorem dX12_fee_2 : decode cX12_fee 2 = .ok (.invokevirtual 144, 3) := by decide +kernel
theorem dX12_fee_5 : decode cX12_fee 5 = .ok (.ifCond .eq 10, 3) := by decide +kernel
theorem dX12_fee_8 : decode cX12_fee 8 = .ok (.iload_n 2, 1) := by decide +kernel
theorem dX12_fee_9 : decode cX12_fee 9 = .ok (.invokestatic 163, 3) := by decide +kernel
theorem dX12_fee_12 : decode cX12_fee 12 = .ok (.ifCond .ne 10, 3) := by decide +kernel
theorem dX12_fee_15 : decode cX12_fee 15 = .ok (.aload_n 0, 1) := by decide +kernel
theorem dX12_fee_16 : decode cX12_fee 16 = .ok (.bipush (-2), 2) := by decide +kernel
theorem dX12_fee_18 : decode cX12_fee 18 = .ok (.invokevirtual 73, 3) := by decide +kernel
theorem dX12_fee_21 : decode cX12_fee 21 = .ok (.ireturn, 1) := by decide +kernel
theorem dX12_fee_22 : decode cX12_fee 22 = .ok (.iconst 1, 1) := by decide +kernel
theorem dX12_fee_23 : decode cX12_fee 23 = .ok (.iload_n 1, 1) := by decide +kernel
theorem dX12_fee_24 : decode cX12_fee 24 = .ok (.ishl, 1) := by decide +kernel
theorem dX12_fee_25 : decode cX12_fee 25 = .ok (.istore_n 3, 1) := by decide +kernel
theorem dX12_fee_26 : decode cX12_fee 26 = .ok (.lconst 0, 1) := by decide +kernel
theorem dX12_fee_27 : decode cX12_fee 27 = .ok (.lstore 4, 2) := by decide +kernel
theorem dX12_fee_29 : decode cX12_fee 29 = .ok (.iconst 0, 1) := by decide +kernel
theorem dX12_fee_30 : decode cX12_fee 30 = .ok (.istore 6, 2) := by decide +kernel
theorem dX12_fee_32 : decode cX12_fee 32 = .ok (.iload 6, 2) := by decide +kernel
theorem dX12_fee_34 : decode cX12_fee 34 = .ok (.aload_n 0, 1) := by decide +kernel
theorem dX12_fee_35 : decode cX12_fee 35 = .ok (.invokevirtual 127, 3) := by decide +kernel
theorem dX12_fee_38 : decode cX12_fee 38 = .ok (.if_icmp .gt 70, 3) := by decide +kernel
theorem dX12_fee_41 : decode cX12_fee 41 = .ok (.iload 6, 2) := by decide +kernel
theorem dX12_fee_43 : decode cX12_fee 43 = .ok (.iload_n 3, 1) := by decide +kernel
theorem dX12_fee_44 : decode cX12_fee 44 = .ok (.iand, 1) := by decide +kernel
theorem dX12_fee_45 : decode cX12_fee 45 = .ok (.ifCond .ne 57, 3) := by decide +kernel
theorem dX12_fee_48 : decode cX12_fee 48 = .ok (.iload 6, 2) := by decide +kernel
theorem dX12_fee_50 : decode cX12_fee 50 = .ok (.invokestatic 203, 3) := by decide +kernel
theorem dX12_fee_53 : decode cX12_fee 53 = .ok (.invokestatic 206, 3) := by decide +kernel
theorem dX12_fee_56 : decode cX12_fee 56 = .ok (.i2l, 1) := by decide +kernel
theorem dX12_fee_57 : decode cX12_fee 57 = .ok (.aload_n 0, 1) := by decide +kernel
theorem dX12_fee_58 : decode cX12_fee 58 = .ok (.invokevirtual 68, 3) := by decide +kernel
theorem dX12_fee_61 : decode cX12_fee 61 = .ok (.iconst 1, 1) := by decide +kernel
theorem dX12_fee_62 : decode cX12_fee 62 = .ok (.isub, 1) := by decide +kernel
theorem dX12_fee_63 : decode cX12_fee 63 = .ok (.iload 6, 2) := by decide +kernel
theorem dX12_fee_65 : decode cX12_fee 65 = .ok (.invokestatic 203, 3) := by decide +kernel
theorem dX12_fee_68 : decode cX12_fee 68 = .ok (.isub, 1) := by decide +kernel
theorem dX12_fee_69 : decode cX12_fee 69 = .ok (.invokestatic 206, 3) := by decide +kernel
theorem dX12_fee_72 : decode cX12_fee 72 = .ok (.i2l, 1) := by decide +kernel
theorem dX12_fee_73 : decode cX12_fee 73 = .ok (.lmul, 1) := by decide +kernel
theorem dX12_fee_74 : decode cX12_fee 74 = .ok (.lstore 7, 2) := by decide +kernel
theorem dX12_fee_76 : decode cX12_fee 76 = .ok (.lload 4, 2) := by decide +kernel
theorem dX12_fee_78 : decode cX12_fee 78 = .ok (.lload 7, 2) := by decide +kernel
theorem dX12_fee_80 : decode cX12_fee 80 = .ok (.aload_n 0, 1) := by decide +kernel
theorem dX12_fee_81 : decode cX12_fee 81 = .ok (.iload_n 2, 1) := by decide +kernel
theorem dX12_fee_82 : decode cX12_fee 82 = .ok (.iload 6, 2) := by decide +kernel
theorem dX12_fee_84 : decode cX12_fee 84 = .ok (.iload_n 3, 1) := by decide +kernel
theorem dX12_fee_85 : decode cX12_fee 85 = .ok (.ior, 1) := by decide +kernel
theorem dX12_fee_86 : decode cX12_fee 86 = .ok (.invokevirtual 172, 3) := by decide +kernel
theorem dX12_fee_89 : decode cX12_fee 89 = .ok (.aload_n 0, 1) := by decide +kernel
theorem dX12_fee_90 : decode cX12_fee 90 = .ok (.iload_n 2, 1) := by decide +kernel
theorem dX12_fee_91 : decode cX12_fee 91 = .ok (.iload 6, 2) := by decide +kernel
theorem dX12_fee_93 : decode cX12_fee 93 = .ok (.invokevirtual 172, 3) := by decide +kernel
theorem dX12_fee_96 : decode cX12_fee 96 = .ok (.isub, 1) := by decide +kernel
theorem dX12_fee_97 : decode cX12_fee 97 = .ok (.i2l, 1) := by decide +kernel
theorem dX12_fee_98 : decode cX12_fee 98 = .ok (.lmul, 1) := by decide +kernel
theorem dX12_fee_99 : decode cX12_fee 99 = .ok (.ladd, 1) := by decide +kernel
theorem dX12_fee_100 : decode cX12_fee 100 = .ok (.lstore 4, 2) := by decide +kernel
theorem dX12_fee_102 : decode cX12_fee 102 = .ok (.iinc 6 1, 3) := by decide +kernel
theorem dX12_fee_105 : decode cX12_fee 105 = .ok (.goto (-73), 3) := by decide +kernel
theorem dX12_fee_108 : decode cX12_fee 108 = .ok (.aload_n 0, 1) := by decide +kernel
theorem dX12_fee_109 : decode cX12_fee 109 = .ok (.invokevirtual 68, 3) := by decide +kernel
theorem dX12_fee_112 : decode cX12_fee 112 = .ok (.invokestatic 206, 3) := by decide +kernel
theorem dX12_fee_115 : decode cX12_fee 115 = .ok (.istore 6, 2) := by decide +kernel
theorem dX12_fee_117 : decode cX12_fee 117 = .ok (.lload 4, 2) := by decide +kernel
theorem dX12_fee_119 : decode cX12_fee 119 = .ok (.lconst 0, 1) := by decide +kernel
theorem dX12_fee_120 : decode cX12_fee 120 = .ok (.lcmp, 1) := by decide +kernel
theorem dX12_fee_121 : decode cX12_fee 121 = .ok (.ifCond .ge 9, 3) := by decide +kernel
theorem dX12_fee_124 : decode cX12_fee 124 = .ok (.lload 4, 2) := by decide +kernel
theorem dX12_fee_126 : decode cX12_fee 126 = .ok (.lneg, 1) := by decide +kernel
theorem dX12_fee_127 : decode cX12_fee 127 = .ok (.goto 5, 3) := by decide +kernel
theorem dX12_fee_130 : decode cX12_fee 130 = .ok (.lload 4, 2) := by decide +kernel
theorem dX12_fee_132 : decode cX12_fee 132 = .ok (.lstore 7, 2) := by decide +kernel
theorem dX12_fee_134 : decode cX12_fee 134 = .ok (.iload 6, 2) := by decide +kernel
theorem dX12_fee_136 : decode cX12_fee 136 = .ok (.i2l, 1) := by decide +kernel
theorem dX12_fee_137 : decode cX12_fee 137 = .ok (.lstore 9, 2) := by decide +kernel
theorem dX12_fee_139 : decode cX12_fee 139 = .ok (.lload 9, 2) := by decide +kernel
theorem dX12_fee_141 : decode cX12_fee 141 = .ok (.lconst 0, 1) := by decide +kernel
theorem dX12_fee_142 : decode cX12_fee 142 = .ok (.lcmp, 1) := by decide +kernel
theorem dX12_fee_143 : decode cX12_fee 143 = .ok (.ifCond .eq 21, 3) := by decide +kernel
theorem dX12_fee_146 : decode cX12_fee 146 = .ok (.lload 7, 2) := by decide +kernel
theorem dX12_fee_148 : decode cX12_fee 148 = .ok (.lload 9, 2) := by decide +kernel
theorem dX12_fee_150 : decode cX12_fee 150 = .ok (.lrem, 1) := by decide +kernel
theorem dX12_fee_151 : decode cX12_fee 151 = .ok (.lstore 11, 2) := by decide +kernel
theorem dX12_fee_153 : decode cX12_fee 153 = .ok (.lload 9, 2) := by decide +kernel
theorem dX12_fee_155 : decode cX12_fee 155 = .ok (.lstore 7, 2) := by decide +kernel
theorem dX12_fee_157 : decode cX12_fee 157 = .ok (.lload 11, 2) := by decide +kernel
theorem dX12_fee_159 : decode cX12_fee 159 = .ok (.lstore 9, 2) := by decide +kernel
theorem dX12_fee_161 : decode cX12_fee 161 = .ok (.goto (-22), 3) := by decide +kernel
theorem dX12_fee_164 : decode cX12_fee 164 = .ok (.aload_n 0, 1) := by decide +kernel
theorem dX12_fee_165 : decode cX12_fee 165 = .ok (.lload 4, 2) := by decide +kernel
theorem dX12_fee_167 : decode cX12_fee 167 = .ok (.lload 7, 2) := by decide +kernel
theorem dX12_fee_169 : decode cX12_fee 169 = .ok (.ldiv, 1) := by decide +kernel
theorem dX12_fee_170 : decode cX12_fee 170 = .ok (.putfield 209, 3) := by decide +kernel
theorem dX12_fee_173 : decode cX12_fee 173 = .ok (.aload_n 0, 1) := by decide +kernel
theorem dX12_fee_174 : decode cX12_fee 174 = .ok (.iload 6, 2) := by decide +kernel
theorem dX12_fee_176 : decode cX12_fee 176 = .ok (.i2l, 1) := by decide +kernel
theorem dX12_fee_177 : decode cX12_fee 177 = .ok (.lload 7, 2) := by decide +kernel
theorem dX12_fee_179 : decode cX12_fee 179 = .ok (.ldiv, 1) := by decide +kernel
theorem dX12_fee_180 : decode cX12_fee 180 = .ok (.putfield 23, 3) := by decide +kernel
theorem dX12_fee_183 : decode cX12_fee 183 = .ok (.iconst 1, 1) := by decide +kernel
theorem dX12_fee_184 : decode cX12_fee 184 = .ok (.ireturn, 1) := by decide +kernel
theorem dX12_type_0 : decode cX12_type 0 = .ok (.iload_n 3, 1) := by decide +kernel
theorem dX12_type_1 : decode cX12_type 1 = .ok (.i2l, 1) := by decide +kernel
theorem dX12_type_2 : decode cX12_type 2 = .ok (.lconst 1, 1) := by decide +kernel
theorem dX12_type_3 : decode cX12_type 3 = .ok (.ldc2_w 212, 3) := by decide +kernel
theorem dX12_type_6 : decode cX12_type 6 = .ok (.invokestatic 60, 3) := by decide +kernel
theorem dX12_type_9 : decode cX12_type 9 = .ok (.ifCond .ne 10, 3) := by decide +kernel
theorem dX12_type_12 : decode cX12_type 12 = .ok (.aload_n 0, 1) := by decide +kernel
theorem dX12_type_13 : decode cX12_type 13 = .ok (.bipush (-2), 2) := by decide +kernel
theorem dX12_type_15 : decode cX12_type 15 = .ok (.invokevirtual 73, 3) := by decide +kernel
theorem dX12_type_18 : decode cX12_type 18 = .ok (.ireturn, 1) := by decide +kernel
theorem dX12_type_19 : decode cX12_type 19 = .ok (.aload_n 0, 1) := by decide +kernel
theorem dX12_type_20 : decode cX12_type 20 = .ok (.getfield 214, 3) := by decide +kernel
theorem dX12_type_23 : decode cX12_type 23 = .ok (.iload_n 3, 1) := by decide +kernel
theorem dX12_type_24 : decode cX12_type 24 = .ok (.iadd, 1) := by decide +kernel
theorem dX12_type_25 : decode cX12_type 25 = .ok (.sipush 250, 3) := by decide +kernel
theorem dX12_type_28 : decode cX12_type 28 = .ok (.if_icmp .le 8, 3) := by decide +kernel
theorem dX12_type_31 : decode cX12_type 31 = .ok (.aload_n 0, 1) := by decide +kernel
theorem dX12_type_32 : decode cX12_type 32 = .ok (.invokevirtual 90, 3) := by decide +kernel
theorem dX12_type_35 : decode cX12_type 35 = .ok (.ireturn, 1) := by decide +kernel
theorem dX12_type_36 : decode cX12_type 36 = .ok (.iload_n 3, 1) := by decide +kernel
theorem dX12_type_37 : decode cX12_type 37 = .ok (.iconst 1, 1) := by decide +kernel
theorem dX12_type_38 : decode cX12_type 38 = .ok (.isub, 1) := by decide +kernel
theorem dX12_type_39 : decode cX12_type 39 = .ok (.istore 4, 2) := by decide +kernel
theorem dX12_type_41 : decode cX12_type 41 = .ok (.iload 4, 2) := by decide +kernel
theorem dX12_type_43 : decode cX12_type 43 = .ok (.ifCond .lt 40, 3) := by decide +kernel
theorem dX12_type_46 : decode cX12_type 46 = .ok (.aload_n 0, 1) := by decide +kernel
theorem dX12_type_47 : decode cX12_type 47 = .ok (.getfield 45, 3) := by decide +kernel
theorem dX12_type_50 : decode cX12_type 50 = .ok (.aload_n 0, 1) := by decide +kernel
theorem dX12_type_51 : decode cX12_type 51 = .ok (.getfield 214, 3) := by decide +kernel
theorem dX12_type_54 : decode cX12_type 54 = .ok (.lload_n 1, 1) := by decide +kernel
theorem dX12_type_55 : decode cX12_type 55 = .ok (.bipush 8, 2) := by decide +kernel
theorem dX12_type_57 : decode cX12_type 57 = .ok (.iload 4, 2) := by decide +kernel
theorem dX12_type_59 : decode cX12_type 59 = .ok (.imul, 1) := by decide +kernel
theorem dX12_type_60 : decode cX12_type 60 = .ok (.lushr, 1) := by decide +kernel
theorem dX12_type_61 : decode cX12_type 61 = .ok (.ldc2_w 217, 3) := by decide +kernel
theorem dX12_type_64 : decode cX12_type 64 = .ok (.land, 1) := by decide +kernel
theorem dX12_type_65 : decode cX12_type 65 = .ok (.l2i, 1) := by decide +kernel
theorem dX12_type_66 : decode cX12_type 66 = .ok (.iastore, 1) := by decide +kernel
theorem dX12_type_67 : decode cX12_type 67 = .ok (.aload_n 0, 1) := by decide +kernel
theorem dX12_type_68 : decode cX12_type 68 = .ok (.dup, 1) := by decide +kernel
theorem dX12_type_69 : decode cX12_type 69 = .ok (.getfield 214, 3) := by decide +kernel
theorem dX12_type_72 : decode cX12_type 72 = .ok (.iconst 1, 1) := by decide +kernel
theorem dX12_type_73 : decode cX12_type 73 = .ok (.iadd, 1) := by decide +kernel
theorem dX12_type_74 : decode cX12_type 74 = .ok (.putfield 214, 3) := by decide +kernel
theorem dX12_type_77 : decode cX12_type 77 = .ok (.iinc 4 (-1), 3) := by decide +kernel
theorem dX12_type_80 : decode cX12_type 80 = .ok (.goto (-39), 3) := by decide +kernel
theorem dX12_type_83 : decode cX12_type 83 = .ok (.aload_n 0, 1) := by decide +kernel
theorem dX12_type_84 : decode cX12_type 84 = .ok (.getfield 214, 3) := by decide +kernel
theorem dX12_type_87 : decode cX12_type 87 = .ok (.ireturn, 1) := by decide +kernel
theorem dX12_clear_0 : decode cX12_clear 0 = .ok (.aload_n 0, 1) := by decide +kernel
theorem dX12_clear_1 : decode cX12_clear 1 = .ok (.getfield 214, 3) := by decide +kernel
theorem dX12_clear_4 : decode cX12_clear 4 = .ok (.istore_n 1, 1) := by decide +kernel
theorem dX12_clear_5 : decode cX12_clear 5 = .ok (.aload_n 0, 1) := by decide +kernel
theorem dX12_clear_6 : decode cX12_clear 6 = .ok (.iconst 0, 1) := by decide +kernel
theorem dX12_clear_7 : decode cX12_clear 7 = .ok (.putfield 214, 3) := by decide +kernel
theorem dX12_clear_10 : decode cX12_clear 10 = .ok (.iload_n 1, 1) := by decide +kernel
theorem dX12_clear_11 : decode cX12_clear 11 = .ok (.ireturn, 1) := by decide +kernel
theorem dX12_isSmall_0 : decode cX12_isSmall 0 = .ok (.iload_n 0, 1) := by decide +kernel
theorem dX12_isSmall_1 : decode cX12_isSmall 1 = .ok (.i2l, 1) := by decide +kernel
theorem dX12_isSmall_2 : decode cX12_isSmall 2 = .ok (.ldc2_w 219, 3) := by decide +kernel
theorem dX12_isSmall_5 : decode cX12_isSmall 5 = .ok (.ldc2_w 221, 3) := by decide +kernel
theorem dX12_isSmall_8 : decode cX12_isSmall 8 = .ok (.invokestatic 60, 3) := by decide +kernel
theorem dX12_isSmall_11 : decode cX12_isSmall 11 = .ok (.ireturn, 1) := by decide +kernel
theorem dX12_isFigure_0 : decode cX12_isFigure 0 = .ok (.iload_n 0, 1) := by decide +kernel
theorem dX12_isFigure_1 : decode cX12_isFigure 1 = .ok (.i2l, 1) := by decide +kernel
theorem dX12_isFigure_2 : decode cX12_isFigure 2 = .ok (.ldc2_w 223, 3) := by decide +kernel
theorem dX12_isFigure_5 : decode cX12_isFigure 5 = .ok (.ldc2_w 225, 3) := by decide +kernel
theorem dX12_isFigure_8 : decode cX12_isFigure 8 = .ok (.invokestatic 60, 3) := by decide +kernel
theorem dX12_isFigure_11 : decode cX12_isFigure 11 = .ok (.ireturn, 1) := by decide +kernel
theorem dX12_look_0 : decode cX12_look 0 = .ok (.aload_n 0, 1) := by decide +kernel
theorem dX12_look_1 : decode cX12_look 1 = .ok (.iload_n 1, 1) := by decide +kernel
theorem dX12_look_2 : decode cX12_look 2 = .ok (.putfield 227, 3) := by decide +kernel
theorem dX12_look_5 : decode cX12_look 5 = .ok (.aload_n 0, 1) := by decide +kernel
theorem dX12_look_6 : decode cX12_look 6 = .ok (.getfield 227, 3) := by decide +kernel
theorem dX12_look_9 : decode cX12_look 9 = .ok (.aload_n 0, 1) := by decide +kernel
theorem dX12_look_10 : decode cX12_look 10 = .ok (.getfield 214, 3) := by decide +kernel
theorem dX12_look_13 : decode cX12_look 13 = .ok (.if_icmp .ge 30, 3) := by decide +kernel
theorem dX12_look_16 : decode cX12_look 16 = .ok (.aload_n 0, 1) := by decide +kernel
theorem dX12_look_17 : decode cX12_look 17 = .ok (.getfield 45, 3) := by decide +kernel
theorem dX12_look_20 : decode cX12_look 20 = .ok (.aload_n 0, 1) := by decide +kernel
theorem dX12_look_21 : decode cX12_look 21 = .ok (.getfield 227, 3) := by decide +kernel
theorem dX12_look_24 : decode cX12_look 24 = .ok (.iaload, 1) := by decide +kernel
theorem dX12_look_25 : decode cX12_look 25 = .ok (.bipush 32, 2) := by decide +kernel
theorem dX12_look_27 : decode cX12_look 27 = .ok (.if_icmp .ne 16, 3) := by decide +kernel
theorem dX12_look_30 : decode cX12_look 30 = .ok (.aload_n 0, 1) := by decide +kernel
theorem dX12_look_31 : decode cX12_look 31 = .ok (.dup, 1) := by decide +kernel
theorem dX12_look_32 : decode cX12_look 32 = .ok (.getfield 227, 3) := by decide +kernel
theorem dX12_look_35 : decode cX12_look 35 = .ok (.iconst 1, 1) := by decide +kernel
theorem dX12_look_36 : decode cX12_look 36 = .ok (.iadd, 1) := by decide +kernel
theorem dX12_look_37 : decode cX12_look 37 = .ok (.putfield 227, 3) := by decide +kernel
theorem dX12_look_40 : decode cX12_look 40 = .ok (.goto (-35), 3) := by decide +kernel
theorem dX12_look_43 : decode cX12_look 43 = .ok (.aload_n 0, 1) := by decide +kernel
theorem dX12_look_44 : decode cX12_look 44 = .ok (.iconst 0, 1) := by decide +kernel
theorem dX12_look_45 : decode cX12_look 45 = .ok (.putfield 230, 3) := by decide +kernel
theorem dX12_look_48 : decode cX12_look 48 = .ok (.aload_n 0, 1) := by decide +kernel
theorem dX12_look_49 : decode cX12_look 49 = .ok (.iconst 0, 1) := by decide +kernel
theorem dX12_look_50 : decode cX12_look 50 = .ok (.putfield 233, 3) := by decide +kernel
theorem dX12_look_53 : decode cX12_look 53 = .ok (.aload_n 0, 1) := by decide +kernel
theorem dX12_look_54 : decode cX12_look 54 = .ok (.iconst 0, 1) := by decide +kernel
theorem dX12_look_55 : decode cX12_look 55 = .ok (.putfield 236, 3) := by decide +kernel
theorem dX12_look_58 : decode cX12_look 58 = .ok (.aload_n 0, 1) := by decide +kernel
theorem dX12_look_59 : decode cX12_look 59 = .ok (.getfield 227, 3) := by decide +kernel
theorem dX12_look_62 : decode cX12_look 62 = .ok (.aload_n 0, 1) := by decide +kernel
theorem dX12_look_63 : decode cX12_look 63 = .ok (.getfield 214, 3) := by decide +kernel
theorem dX12_look_66 : decode cX12_look 66 = .ok (.if_icmp .ne 4, 3) := by decide +kernel
theorem dX12_look_69 : decode cX12_look 69 = .ok (.return_, 1) := by decide +kernel
theorem dX12_look_70 : decode cX12_look 70 = .ok (.aload_n 0, 1) := by decide +kernel
theorem dX12_look_71 : decode cX12_look 71 = .ok (.getfield 45, 3) := by decide +kernel
theorem dX12_look_74 : decode cX12_look 74 = .ok (.aload_n 0, 1) := by decide +kernel
theorem dX12_look_75 : decode cX12_look 75 = .ok (.getfield 227, 3) := by decide +kernel
theorem dX12_look_78 : decode cX12_look 78 = .ok (.iaload, 1) := by decide +kernel
theorem dX12_look_79 : decode cX12_look 79 = .ok (.istore_n 2, 1) := by decide +kernel
theorem dX12_look_80 : decode cX12_look 80 = .ok (.aload_n 0, 1) := by decide +kernel
theorem dX12_look_81 : decode cX12_look 81 = .ok (.iload_n 2, 1) := by decide +kernel
theorem dX12_look_82 : decode cX12_look 82 = .ok (.invokestatic 239, 3) := by decide +kernel
theorem dX12_look_85 : decode cX12_look 85 = .ok (.ifCond .eq 7, 3) := by decide +kernel
theorem dX12_look_88 : decode cX12_look 88 = .ok (.iconst 1, 1) := by decide +kernel
theorem dX12_look_89 : decode cX12_look 89 = .ok (.goto 25, 3) := by decide +kernel
theorem dX12_look_92 : decode cX12_look 92 = .ok (.iload_n 2, 1) := by decide +kernel
theorem dX12_look_93 : decode cX12_look 93 = .ok (.invokestatic 242, 3) := by decide +kernel
theorem dX12_look_96 : decode cX12_look 96 = .ok (.ifCond .eq 7, 3) := by decide +kernel
theorem dX12_look_99 : decode cX12_look 99 = .ok (.iconst 2, 1) := by decide +kernel
theorem dX12_look_100 : decode cX12_look 100 = .ok (.goto 14, 3) := by decide +kernel
theorem dX12_look_103 : decode cX12_look 103 = .ok (.iload_n 2, 1) := by decide +kernel
theorem dX12_look_104 : decode cX12_look 104 = .ok (.bipush 59, 2) := by decide +kernel
theorem dX12_look_106 : decode cX12_look 106 = .ok (.if_icmp .ne 7, 3) := by decide +kernel
theorem dX12_look_109 : decode cX12_look 109 = .ok (.iconst 3, 1) := by decide +kernel
theorem dX12_look_110 : decode cX12_look 110 = .ok (.goto 4, 3) := by decide +kernel
theorem dX12_look_113 : decode cX12_look 113 = .ok (.iconst 4, 1) := by decide +kernel
theorem dX12_look_114 : decode cX12_look 114 = .ok (.putfield 233, 3) := by decide +kernel
theorem dX12_look_117 : decode cX12_look 117 = .ok (.aload_n 0, 1) := by decide +kernel
theorem dX12_look_118 : decode cX12_look 118 = .ok (.iconst 1, 1) := by decide +kernel
theorem dX12_look_119 : decode cX12_look 119 = .ok (.putfield 230, 3) := by decide +kernel
theorem dX12_look_122 : decode cX12_look 122 = .ok (.aload_n 0, 1) := by decide +kernel
theorem dX12_look_123 : decode cX12_look 123 = .ok (.getfield 233, 3) := by decide +kernel
theorem dX12_look_126 : decode cX12_look 126 = .ok (.iconst 3, 1) := by decide +kernel
theorem dX12_look_127 : decode cX12_look 127 = .ok (.if_icmp .ge 7, 3) := by decide +kernel
theorem dX12_look_130 : decode cX12_look 130 = .ok (.iconst 1, 1) := by decide +kernel
theorem dX12_look_131 : decode cX12_look 131 = .ok (.goto 4, 3) := by decide +kernel
theorem dX12_look_134 : decode cX12_look 134 = .ok (.iconst 0, 1) := by decide +kernel
theorem dX12_look_135 : decode cX12_look 135 = .ok (.istore_n 3, 1) := by decide +kernel
theorem dX12_look_136 : decode cX12_look 136 = .ok (.iload_n 3, 1) := by decide +kernel
theorem dX12_look_137 : decode cX12_look 137 = .ok (.ifCond .eq 78, 3) := by decide +kernel
theorem dX12_look_140 : decode cX12_look 140 = .ok (.aload_n 0, 1) := by decide +kernel
theorem dX12_look_141 : decode cX12_look 141 = .ok (.getfield 227, 3) := by decide +kernel
end
section
theorem dX12_look_144 : decode cX12_look 144 = .ok (.aload_n 0, 1) := by decide +kernel
theorem dX12_look_145 : decode cX12_look 145 = .ok (.getfield 230, 3) := by decide +kernel
theorem dX12_look_148 : decode cX12_look 148 = .ok (.iadd, 1) := by decide +kernel
theorem dX12_look_149 : decode cX12_look 149 = .ok (.aload_n 0, 1) := by decide +kernel
theorem dX12_look_150 : decode cX12_look 150 = .ok (.getfield 214, 3) := by decide +kernel
theorem dX12_look_153 : decode cX12_look 153 = .ok (.if_icmp .ge 62, 3) := by decide +kernel
theorem dX12_look_156 : decode cX12_look 156 = .ok (.aload_n 0, 1) := by decide +kernel
theorem dX12_look_157 : decode cX12_look 157 = .ok (.getfield 45, 3) := by decide +kernel
theorem dX12_look_160 : decode cX12_look 160 = .ok (.aload_n 0, 1) := by decide +kernel
theorem dX12_look_161 : decode cX12_look 161 = .ok (.getfield 227, 3) := by decide +kernel
theorem dX12_look_164 : decode cX12_look 164 = .ok (.aload_n 0, 1) := by decide +kernel
theorem dX12_look_165 : decode cX12_look 165 = .ok (.getfield 230, 3) := by decide +kernel
theorem dX12_look_168 : decode cX12_look 168 = .ok (.iadd, 1) := by decide +kernel
theorem dX12_look_169 : decode cX12_look 169 = .ok (.iaload, 1) := by decide +kernel
theorem dX12_look_170 : decode cX12_look 170 = .ok (.istore 4, 2) := by decide +kernel
theorem dX12_look_172 : decode cX12_look 172 = .ok (.aload_n 0, 1) := by decide +kernel
theorem dX12_look_173 : decode cX12_look 173 = .ok (.getfield 233, 3) := by decide +kernel
theorem dX12_look_176 : decode cX12_look 176 = .ok (.iconst 1, 1) := by decide +kernel
theorem dX12_look_177 : decode cX12_look 177 = .ok (.if_icmp .ne 11, 3) := by decide +kernel
theorem dX12_look_180 : decode cX12_look 180 = .ok (.iload 4, 2) := by decide +kernel
theorem dX12_look_182 : decode cX12_look 182 = .ok (.invokestatic 239, 3) := by decide +kernel
theorem dX12_look_185 : decode cX12_look 185 = .ok (.goto 8, 3) := by decide +kernel
theorem dX12_look_188 : decode cX12_look 188 = .ok (.iload 4, 2) := by decide +kernel
theorem dX12_look_190 : decode cX12_look 190 = .ok (.invokestatic 242, 3) := by decide +kernel
theorem dX12_look_193 : decode cX12_look 193 = .ok (.istore_n 3, 1) := by decide +kernel
theorem dX12_look_194 : decode cX12_look 194 = .ok (.aload_n 0, 1) := by decide +kernel
theorem dX12_look_195 : decode cX12_look 195 = .ok (.dup, 1) := by decide +kernel
theorem dX12_look_196 : decode cX12_look 196 = .ok (.getfield 230, 3) := by decide +kernel
theorem dX12_look_199 : decode cX12_look 199 = .ok (.iload_n 3, 1) := by decide +kernel
theorem dX12_look_200 : decode cX12_look 200 = .ok (.ifCond .eq 7, 3) := by decide +kernel
theorem dX12_look_203 : decode cX12_look 203 = .ok (.iconst 1, 1) := by decide +kernel
theorem dX12_look_204 : decode cX12_look 204 = .ok (.goto 4, 3) := by decide +kernel
theorem dX12_look_207 : decode cX12_look 207 = .ok (.iconst 0, 1) := by decide +kernel
theorem dX12_look_208 : decode cX12_look 208 = .ok (.iadd, 1) := by decide +kernel
theorem dX12_look_209 : decode cX12_look 209 = .ok (.putfield 230, 3) := by decide +kernel
theorem dX12_look_212 : decode cX12_look 212 = .ok (.goto (-76), 3) := by decide +kernel
theorem dX12_look_215 : decode cX12_look 215 = .ok (.iconst 0, 1) := by decide +kernel
theorem dX12_look_216 : decode cX12_look 216 = .ok (.istore 4, 2) := by decide +kernel
theorem dX12_look_218 : decode cX12_look 218 = .ok (.iload 4, 2) := by decide +kernel
theorem dX12_look_220 : decode cX12_look 220 = .ok (.aload_n 0, 1) := by decide +kernel
theorem dX12_look_221 : decode cX12_look 221 = .ok (.getfield 230, 3) := by decide +kernel
theorem dX12_look_224 : decode cX12_look 224 = .ok (.if_icmp .ge 50, 3) := by decide +kernel
theorem dX12_look_227 : decode cX12_look 227 = .ok (.iload 4, 2) := by decide +kernel
theorem dX12_look_229 : decode cX12_look 229 = .ok (.iconst 3, 1) := by decide +kernel
theorem dX12_look_230 : decode cX12_look 230 = .ok (.if_icmp .ge 44, 3) := by decide +kernel
theorem dX12_look_233 : decode cX12_look 233 = .ok (.aload_n 0, 1) := by decide +kernel
theorem dX12_look_234 : decode cX12_look 234 = .ok (.getfield 233, 3) := by decide +kernel
theorem dX12_look_237 : decode cX12_look 237 = .ok (.iconst 2, 1) := by decide +kernel
theorem dX12_look_238 : decode cX12_look 238 = .ok (.if_icmp .ne 36, 3) := by decide +kernel
theorem dX12_look_241 : decode cX12_look 241 = .ok (.aload_n 0, 1) := by decide +kernel
theorem dX12_look_242 : decode cX12_look 242 = .ok (.bipush 10, 2) := by decide +kernel
theorem dX12_look_244 : decode cX12_look 244 = .ok (.aload_n 0, 1) := by decide +kernel
theorem dX12_look_245 : decode cX12_look 245 = .ok (.getfield 236, 3) := by decide +kernel
theorem dX12_look_248 : decode cX12_look 248 = .ok (.imul, 1) := by decide +kernel
theorem dX12_look_249 : decode cX12_look 249 = .ok (.aload_n 0, 1) := by decide +kernel
theorem dX12_look_250 : decode cX12_look 250 = .ok (.getfield 45, 3) := by decide +kernel
theorem dX12_look_253 : decode cX12_look 253 = .ok (.aload_n 0, 1) := by decide +kernel
theorem dX12_look_254 : decode cX12_look 254 = .ok (.getfield 227, 3) := by decide +kernel
theorem dX12_look_257 : decode cX12_look 257 = .ok (.iload 4, 2) := by decide +kernel
theorem dX12_look_259 : decode cX12_look 259 = .ok (.iadd, 1) := by decide +kernel
theorem dX12_look_260 : decode cX12_look 260 = .ok (.iaload, 1) := by decide +kernel
theorem dX12_look_261 : decode cX12_look 261 = .ok (.iadd, 1) := by decide +kernel
theorem dX12_look_262 : decode cX12_look 262 = .ok (.bipush 48, 2) := by decide +kernel
theorem dX12_look_264 : decode cX12_look 264 = .ok (.isub, 1) := by decide +kernel
theorem dX12_look_265 : decode cX12_look 265 = .ok (.putfield 236, 3) := by decide +kernel
theorem dX12_look_268 : decode cX12_look 268 = .ok (.iinc 4 1, 3) := by decide +kernel
theorem dX12_look_271 : decode cX12_look 271 = .ok (.goto (-53), 3) := by decide +kernel
theorem dX12_look_274 : decode cX12_look 274 = .ok (.aload_n 0, 1) := by decide +kernel
theorem dX12_look_275 : decode cX12_look 275 = .ok (.aload_n 0, 1) := by decide +kernel
theorem dX12_look_276 : decode cX12_look 276 = .ok (.getfield 233, 3) := by decide +kernel
theorem dX12_look_279 : decode cX12_look 279 = .ok (.iconst 2, 1) := by decide +kernel
theorem dX12_look_280 : decode cX12_look 280 = .ok (.if_icmp .ne 15, 3) := by decide +kernel
theorem dX12_look_283 : decode cX12_look 283 = .ok (.aload_n 0, 1) := by decide +kernel
theorem dX12_look_284 : decode cX12_look 284 = .ok (.getfield 230, 3) := by decide +kernel
theorem dX12_look_287 : decode cX12_look 287 = .ok (.iconst 3, 1) := by decide +kernel
theorem dX12_look_288 : decode cX12_look 288 = .ok (.if_icmp .le 7, 3) := by decide +kernel
theorem dX12_look_291 : decode cX12_look 291 = .ok (.iconst 4, 1) := by decide +kernel
theorem dX12_look_292 : decode cX12_look 292 = .ok (.goto 7, 3) := by decide +kernel
theorem dX12_look_295 : decode cX12_look 295 = .ok (.aload_n 0, 1) := by decide +kernel
theorem dX12_look_296 : decode cX12_look 296 = .ok (.getfield 233, 3) := by decide +kernel
theorem dX12_look_299 : decode cX12_look 299 = .ok (.putfield 233, 3) := by decide +kernel
theorem dX12_look_302 : decode cX12_look 302 = .ok (.return_, 1) := by decide +kernel
theorem dX12_goOn_0 : decode cX12_goOn 0 = .ok (.aload_n 0, 1) := by decide +kernel
theorem dX12_goOn_1 : decode cX12_goOn 1 = .ok (.aload_n 0, 1) := by decide +kernel
theorem dX12_goOn_2 : decode cX12_goOn 2 = .ok (.getfield 227, 3) := by decide +kernel
theorem dX12_goOn_5 : decode cX12_goOn 5 = .ok (.aload_n 0, 1) := by decide +kernel
theorem dX12_goOn_6 : decode cX12_goOn 6 = .ok (.getfield 230, 3) := by decide +kernel
theorem dX12_goOn_9 : decode cX12_goOn 9 = .ok (.iadd, 1) := by decide +kernel
theorem dX12_goOn_10 : decode cX12_goOn 10 = .ok (.invokevirtual 245, 3) := by decide +kernel
theorem dX12_goOn_13 : decode cX12_goOn 13 = .ok (.return_, 1) := by decide +kernel
theorem dX12_isWord_0 : decode cX12_isWord 0 = .ok (.iload 5, 2) := by decide +kernel
theorem dX12_isWord_2 : decode cX12_isWord 2 = .ok (.ifCond .ne 7, 3) := by decide +kernel
theorem dX12_isWord_5 : decode cX12_isWord 5 = .ok (.iconst 4, 1) := by decide +kernel
theorem dX12_isWord_6 : decode cX12_isWord 6 = .ok (.goto 4, 3) := by decide +kernel
theorem dX12_isWord_9 : decode cX12_isWord 9 = .ok (.iconst 5, 1) := by decide +kernel
theorem dX12_isWord_10 : decode cX12_isWord 10 = .ok (.istore 6, 2) := by decide +kernel
theorem dX12_isWord_12 : decode cX12_isWord 12 = .ok (.aload_n 0, 1) := by decide +kernel
theorem dX12_isWord_13 : decode cX12_isWord 13 = .ok (.getfield 233, 3) := by decide +kernel
theorem dX12_isWord_16 : decode cX12_isWord 16 = .ok (.iconst 1, 1) := by decide +kernel
theorem dX12_isWord_17 : decode cX12_isWord 17 = .ok (.if_icmp .ne 16, 3) := by decide +kernel
theorem dX12_isWord_20 : decode cX12_isWord 20 = .ok (.aload_n 0, 1) := by decide +kernel
theorem dX12_isWord_21 : decode cX12_isWord 21 = .ok (.getfield 230, 3) := by decide +kernel
theorem dX12_isWord_24 : decode cX12_isWord 24 = .ok (.iload 6, 2) := by decide +kernel
theorem dX12_isWord_26 : decode cX12_isWord 26 = .ok (.if_icmp .ne 7, 3) := by decide +kernel
theorem dX12_isWord_29 : decode cX12_isWord 29 = .ok (.iconst 1, 1) := by decide +kernel
theorem dX12_isWord_30 : decode cX12_isWord 30 = .ok (.goto 4, 3) := by decide +kernel
theorem dX12_isWord_33 : decode cX12_isWord 33 = .ok (.iconst 0, 1) := by decide +kernel
theorem dX12_isWord_34 : decode cX12_isWord 34 = .ok (.istore 7, 2) := by decide +kernel
theorem dX12_isWord_36 : decode cX12_isWord 36 = .ok (.iconst 0, 1) := by decide +kernel
theorem dX12_isWord_37 : decode cX12_isWord 37 = .ok (.istore 8, 2) := by decide +kernel
theorem dX12_isWord_39 : decode cX12_isWord 39 = .ok (.iload 8, 2) := by decide +kernel
theorem dX12_isWord_41 : decode cX12_isWord 41 = .ok (.iload 6, 2) := by decide +kernel
theorem dX12_isWord_43 : decode cX12_isWord 43 = .ok (.if_icmp .ge 78, 3) := by decide +kernel
theorem dX12_isWord_46 : decode cX12_isWord 46 = .ok (.iload 7, 2) := by decide +kernel
theorem dX12_isWord_48 : decode cX12_isWord 48 = .ok (.ifCond .eq 73, 3) := by decide +kernel
theorem dX12_isWord_51 : decode cX12_isWord 51 = .ok (.aload_n 0, 1) := by decide +kernel
theorem dX12_isWord_52 : decode cX12_isWord 52 = .ok (.getfield 45, 3) := by decide +kernel
theorem dX12_isWord_55 : decode cX12_isWord 55 = .ok (.aload_n 0, 1) := by decide +kernel
theorem dX12_isWord_56 : decode cX12_isWord 56 = .ok (.getfield 227, 3) := by decide +kernel
theorem dX12_isWord_59 : decode cX12_isWord 59 = .ok (.iload 8, 2) := by decide +kernel
theorem dX12_isWord_61 : decode cX12_isWord 61 = .ok (.iadd, 1) := by decide +kernel
theorem dX12_isWord_62 : decode cX12_isWord 62 = .ok (.iaload, 1) := by decide +kernel
theorem dX12_isWord_63 : decode cX12_isWord 63 = .ok (.iload 8, 2) := by decide +kernel
theorem dX12_isWord_65 : decode cX12_isWord 65 = .ok (.ifCond .ne 7, 3) := by decide +kernel
theorem dX12_isWord_68 : decode cX12_isWord 68 = .ok (.iload_n 1, 1) := by decide +kernel
theorem dX12_isWord_69 : decode cX12_isWord 69 = .ok (.goto 36, 3) := by decide +kernel
theorem dX12_isWord_72 : decode cX12_isWord 72 = .ok (.iload 8, 2) := by decide +kernel
theorem dX12_isWord_74 : decode cX12_isWord 74 = .ok (.iconst 1, 1) := by decide +kernel
theorem dX12_isWord_75 : decode cX12_isWord 75 = .ok (.if_icmp .ne 7, 3) := by decide +kernel
theorem dX12_isWord_78 : decode cX12_isWord 78 = .ok (.iload_n 2, 1) := by decide +kernel
theorem dX12_isWord_79 : decode cX12_isWord 79 = .ok (.goto 26, 3) := by decide +kernel
theorem dX12_isWord_82 : decode cX12_isWord 82 = .ok (.iload 8, 2) := by decide +kernel
theorem dX12_isWord_84 : decode cX12_isWord 84 = .ok (.iconst 2, 1) := by decide +kernel
theorem dX12_isWord_85 : decode cX12_isWord 85 = .ok (.if_icmp .ne 7, 3) := by decide +kernel
theorem dX12_isWord_88 : decode cX12_isWord 88 = .ok (.iload_n 3, 1) := by decide +kernel
theorem dX12_isWord_89 : decode cX12_isWord 89 = .ok (.goto 16, 3) := by decide +kernel
theorem dX12_isWord_92 : decode cX12_isWord 92 = .ok (.iload 8, 2) := by decide +kernel
theorem dX12_isWord_94 : decode cX12_isWord 94 = .ok (.iconst 3, 1) := by decide +kernel
theorem dX12_isWord_95 : decode cX12_isWord 95 = .ok (.if_icmp .ne 8, 3) := by decide +kernel
theorem dX12_isWord_98 : decode cX12_isWord 98 = .ok (.iload 4, 2) := by decide +kernel
theorem dX12_isWord_100 : decode cX12_isWord 100 = .ok (.goto 5, 3) := by decide +kernel
theorem dX12_isWord_103 : decode cX12_isWord 103 = .ok (.iload 5, 2) := by decide +kernel
theorem dX12_isWord_105 : decode cX12_isWord 105 = .ok (.if_icmp .ne 7, 3) := by decide +kernel
theorem dX12_isWord_108 : decode cX12_isWord 108 = .ok (.iconst 1, 1) := by decide +kernel
theorem dX12_isWord_109 : decode cX12_isWord 109 = .ok (.goto 4, 3) := by decide +kernel
theorem dX12_isWord_112 : decode cX12_isWord 112 = .ok (.iconst 0, 1) := by decide +kernel
theorem dX12_isWord_113 : decode cX12_isWord 113 = .ok (.istore 7, 2) := by decide +kernel
theorem dX12_isWord_115 : decode cX12_isWord 115 = .ok (.iinc 8 1, 3) := by decide +kernel
theorem dX12_isWord_118 : decode cX12_isWord 118 = .ok (.goto (-79), 3) := by decide +kernel
theorem dX12_isWord_121 : decode cX12_isWord 121 = .ok (.iload 7, 2) := by decide +kernel
theorem dX12_isWord_123 : decode cX12_isWord 123 = .ok (.ireturn, 1) := by decide +kernel
theorem dX12_takes_0 : decode cX12_takes 0 = .ok (.aload_n 0, 1) := by decide +kernel
theorem dX12_takes_1 : decode cX12_takes 1 = .ok (.getfield 233, 3) := by decide +kernel
theorem dX12_takes_4 : decode cX12_takes 4 = .ok (.iconst 2, 1) := by decide +kernel
theorem dX12_takes_5 : decode cX12_takes 5 = .ok (.if_icmp .ne 18, 3) := by decide +kernel
theorem dX12_takes_8 : decode cX12_takes 8 = .ok (.aload_n 0, 1) := by decide +kernel
theorem dX12_takes_9 : decode cX12_takes 9 = .ok (.getfield 236, 3) := by decide +kernel
theorem dX12_takes_12 : decode cX12_takes 12 = .ok (.i2l, 1) := by decide +kernel
theorem dX12_takes_13 : decode cX12_takes 13 = .ok (.iload_n 2, 1) := by decide +kernel
theorem dX12_takes_14 : decode cX12_takes 14 = .ok (.i2l, 1) := by decide +kernel
theorem dX12_takes_15 : decode cX12_takes 15 = .ok (.iload_n 3, 1) := by decide +kernel
theorem dX12_takes_16 : decode cX12_takes 16 = .ok (.i2l, 1) := by decide +kernel
theorem dX12_takes_17 : decode cX12_takes 17 = .ok (.invokestatic 60, 3) := by decide +kernel
theorem dX12_takes_20 : decode cX12_takes 20 = .ok (.ifCond .ne 5, 3) := by decide +kernel
theorem dX12_takes_23 : decode cX12_takes 23 = .ok (.iconst 0, 1) := by decide +kernel
theorem dX12_takes_24 : decode cX12_takes 24 = .ok (.ireturn, 1) := by decide +kernel
theorem dX12_takes_25 : decode cX12_takes 25 = .ok (.aload_n 0, 1) := by decide +kernel
theorem dX12_takes_26 : decode cX12_takes 26 = .ok (.getfield 51, 3) := by decide +kernel
theorem dX12_takes_29 : decode cX12_takes 29 = .ok (.iload_n 1, 1) := by decide +kernel
theorem dX12_takes_30 : decode cX12_takes 30 = .ok (.aload_n 0, 1) := by decide +kernel
theorem dX12_takes_31 : decode cX12_takes 31 = .ok (.getfield 236, 3) := by decide +kernel
theorem dX12_takes_34 : decode cX12_takes 34 = .ok (.iastore, 1) := by decide +kernel
theorem dX12_takes_35 : decode cX12_takes 35 = .ok (.aload_n 0, 1) := by decide +kernel
theorem dX12_takes_36 : decode cX12_takes 36 = .ok (.invokevirtual 248, 3) := by decide +kernel
theorem dX12_takes_39 : decode cX12_takes 39 = .ok (.iconst 1, 1) := by decide +kernel
theorem dX12_takes_40 : decode cX12_takes 40 = .ok (.ireturn, 1) := by decide +kernel
theorem dX12_readsFirst_0 : decode cX12_readsFirst 0 = .ok (.aload_n 0, 1) := by decide +kernel
theorem dX12_readsFirst_1 : decode cX12_readsFirst 1 = .ok (.bipush 114, 2) := by decide +kernel
theorem dX12_readsFirst_3 : decode cX12_readsFirst 3 = .ok (.bipush 105, 2) := by decide +kernel
theorem dX12_readsFirst_5 : decode cX12_readsFirst 5 = .ok (.bipush 110, 2) := by decide +kernel
theorem dX12_readsFirst_7 : decode cX12_readsFirst 7 = .ok (.bipush 103, 2) := by decide +kernel
theorem dX12_readsFirst_9 : decode cX12_readsFirst 9 = .ok (.iconst 0, 1) := by decide +kernel
theorem dX12_readsFirst_10 : decode cX12_readsFirst 10 = .ok (.invokevirtual 251, 3) := by decide +kernel
theorem dX12_readsFirst_13 : decode cX12_readsFirst 13 = .ok (.ifCond .ne 5, 3) := by decide +kernel
theorem dX12_readsFirst_16 : decode cX12_readsFirst 16 = .ok (.iconst 0, 1) := by decide +kernel
theorem dX12_readsFirst_17 : decode cX12_readsFirst 17 = .ok (.ireturn, 1) := by decide +kernel
theorem dX12_readsFirst_18 : decode cX12_readsFirst 18 = .ok (.aload_n 0, 1) := by decide +kernel
theorem dX12_readsFirst_19 : decode cX12_readsFirst 19 = .ok (.invokevirtual 248, 3) := by decide +kernel
theorem dX12_readsFirst_22 : decode cX12_readsFirst 22 = .ok (.aload_n 0, 1) := by decide +kernel
theorem dX12_readsFirst_23 : decode cX12_readsFirst 23 = .ok (.iconst 0, 1) := by decide +kernel
theorem dX12_readsFirst_24 : decode cX12_readsFirst 24 = .ok (.iconst 4, 1) := by decide +kernel
theorem dX12_readsFirst_25 : decode cX12_readsFirst 25 = .ok (.bipush 24, 2) := by decide +kernel
theorem dX12_readsFirst_27 : decode cX12_readsFirst 27 = .ok (.invokevirtual 255, 3) := by decide +kernel
theorem dX12_readsFirst_30 : decode cX12_readsFirst 30 = .ok (.istore_n 1, 1) := by decide +kernel
theorem dX12_readsFirst_31 : decode cX12_readsFirst 31 = .ok (.aload_n 0, 1) := by decide +kernel
theorem dX12_readsFirst_32 : decode cX12_readsFirst 32 = .ok (.getfield 48, 3) := by decide +kernel
theorem dX12_readsFirst_35 : decode cX12_readsFirst 35 = .ok (.aload_n 0, 1) := by decide +kernel
theorem dX12_readsFirst_36 : decode cX12_readsFirst 36 = .ok (.getfield 51, 3) := by decide +kernel
theorem dX12_readsFirst_39 : decode cX12_readsFirst 39 = .ok (.iconst 0, 1) := by decide +kernel
theorem dX12_readsFirst_40 : decode cX12_readsFirst 40 = .ok (.iaload, 1) := by decide +kernel
theorem dX12_readsFirst_41 : decode cX12_readsFirst 41 = .ok (.invokestatic 54, 3) := by decide +kernel
theorem dX12_readsFirst_44 : decode cX12_readsFirst 44 = .ok (.iload_n 1, 1) := by decide +kernel
theorem dX12_readsFirst_45 : decode cX12_readsFirst 45 = .ok (.ifCond .eq 15, 3) := by decide +kernel
theorem dX12_readsFirst_48 : decode cX12_readsFirst 48 = .ok (.aload_n 0, 1) := by decide +kernel
theorem dX12_readsFirst_49 : decode cX12_readsFirst 49 = .ok (.getfield 233, 3) := by decide +kernel
theorem dX12_readsFirst_52 : decode cX12_readsFirst 52 = .ok (.iconst 3, 1) := by decide +kernel
theorem dX12_readsFirst_53 : decode cX12_readsFirst 53 = .ok (.if_icmp .ne 7, 3) := by decide +kernel
theorem dX12_readsFirst_56 : decode cX12_readsFirst 56 = .ok (.iconst 1, 1) := by decide +kernel
theorem dX12_readsFirst_57 : decode cX12_readsFirst 57 = .ok (.goto 4, 3) := by decide +kernel
theorem dX12_readsFirst_60 : decode cX12_readsFirst 60 = .ok (.iconst 0, 1) := by decide +kernel
theorem dX12_readsFirst_61 : decode cX12_readsFirst 61 = .ok (.ireturn, 1) := by decide +kernel
theorem dX12_lastPlace_0 : decode cX12_lastPlace 0 = .ok (.aload_n 0, 1) := by decide +kernel
theorem dX12_lastPlace_1 : decode cX12_lastPlace 1 = .ok (.getfield 48, 3) := by decide +kernel
theorem dX12_lastPlace_4 : decode cX12_lastPlace 4 = .ok (.iconst 0, 1) := by decide +kernel
theorem dX12_lastPlace_5 : decode cX12_lastPlace 5 = .ok (.iaload, 1) := by decide +kernel
theorem dX12_lastPlace_6 : decode cX12_lastPlace 6 = .ok (.iconst 1, 1) := by decide +kernel
theorem dX12_lastPlace_7 : decode cX12_lastPlace 7 = .ok (.isub, 1) := by decide +kernel
theorem dX12_lastPlace_8 : decode cX12_lastPlace 8 = .ok (.ireturn, 1) := by decide +kernel
theorem dX12_readsItem_0 : decode cX12_readsItem 0 = .ok (.aload_n 0, 1) := by decide +kernel
theorem dX12_readsItem_1 : decode cX12_readsItem 1 = .ok (.bipush 115, 2) := by decide +kernel
theorem dX12_readsItem_3 : decode cX12_readsItem 3 = .ok (.bipush 116, 2) := by decide +kernel
theorem dX12_readsItem_5 : decode cX12_readsItem 5 = .ok (.bipush 101, 2) := by decide +kernel
theorem dX12_readsItem_7 : decode cX12_readsItem 7 = .ok (.bipush 112, 2) := by decide +kernel
theorem dX12_readsItem_9 : decode cX12_readsItem 9 = .ok (.iconst 0, 1) := by decide +kernel
theorem dX12_readsItem_10 : decode cX12_readsItem 10 = .ok (.invokevirtual 251, 3) := by decide +kernel
theorem dX12_readsItem_13 : decode cX12_readsItem 13 = .ok (.ifCond .eq 63, 3) := by decide +kernel
theorem dX12_readsItem_16 : decode cX12_readsItem 16 = .ok (.aload_n 0, 1) := by decide +kernel
theorem dX12_readsItem_17 : decode cX12_readsItem 17 = .ok (.invokevirtual 248, 3) := by decide +kernel
theorem dX12_readsItem_20 : decode cX12_readsItem 20 = .ok (.aload_n 0, 1) := by decide +kernel
theorem dX12_readsItem_21 : decode cX12_readsItem 21 = .ok (.iconst 0, 1) := by decide +kernel
theorem dX12_readsItem_22 : decode cX12_readsItem 22 = .ok (.iconst 0, 1) := by decide +kernel
theorem dX12_readsItem_23 : decode cX12_readsItem 23 = .ok (.iconst 4, 1) := by decide +kernel
theorem dX12_readsItem_24 : decode cX12_readsItem 24 = .ok (.invokevirtual 255, 3) := by decide +kernel
theorem dX12_readsItem_27 : decode cX12_readsItem 27 = .ok (.ifCond .eq 18, 3) := by decide +kernel
theorem dX12_readsItem_30 : decode cX12_readsItem 30 = .ok (.aload_n 0, 1) := by decide +kernel
theorem dX12_readsItem_31 : decode cX12_readsItem 31 = .ok (.iconst 1, 1) := by decide +kernel
theorem dX12_readsItem_32 : decode cX12_readsItem 32 = .ok (.iconst 0, 1) := by decide +kernel
theorem dX12_readsItem_33 : decode cX12_readsItem 33 = .ok (.bipush 9, 2) := by decide +kernel
theorem dX12_readsItem_35 : decode cX12_readsItem 35 = .ok (.invokevirtual 255, 3) := by decide +kernel
theorem dX12_readsItem_38 : decode cX12_readsItem 38 = .ok (.ifCond .eq 7, 3) := by decide +kernel
theorem dX12_readsItem_41 : decode cX12_readsItem 41 = .ok (.iconst 1, 1) := by decide +kernel
theorem dX12_readsItem_42 : decode cX12_readsItem 42 = .ok (.goto 4, 3) := by decide +kernel
theorem dX12_readsItem_45 : decode cX12_readsItem 45 = .ok (.iconst 0, 1) := by decide +kernel
theorem dX12_readsItem_46 : decode cX12_readsItem 46 = .ok (.istore_n 1, 1) := by decide +kernel
theorem dX12_readsItem_47 : decode cX12_readsItem 47 = .ok (.aload_n 0, 1) := by decide +kernel
theorem dX12_readsItem_48 : decode cX12_readsItem 48 = .ok (.getfield 48, 3) := by decide +kernel
theorem dX12_readsItem_51 : decode cX12_readsItem 51 = .ok (.iconst 1, 1) := by decide +kernel
theorem dX12_readsItem_52 : decode cX12_readsItem 52 = .ok (.aload_n 0, 1) := by decide +kernel
theorem dX12_readsItem_53 : decode cX12_readsItem 53 = .ok (.getfield 51, 3) := by decide +kernel
theorem dX12_readsItem_56 : decode cX12_readsItem 56 = .ok (.iconst 0, 1) := by decide +kernel
theorem dX12_readsItem_57 : decode cX12_readsItem 57 = .ok (.iaload, 1) := by decide +kernel
theorem dX12_readsItem_58 : decode cX12_readsItem 58 = .ok (.iadd, 1) := by decide +kernel
theorem dX12_readsItem_59 : decode cX12_readsItem 59 = .ok (.iload_n 1, 1) := by decide +kernel
theorem dX12_readsItem_60 : decode cX12_readsItem 60 = .ok (.ifCond .eq 12, 3) := by decide +kernel
theorem dX12_readsItem_63 : decode cX12_readsItem 63 = .ok (.aload_n 0, 1) := by decide +kernel
theorem dX12_readsItem_64 : decode cX12_readsItem 64 = .ok (.getfield 51, 3) := by decide +kernel
theorem dX12_readsItem_67 : decode cX12_readsItem 67 = .ok (.iconst 1, 1) := by decide +kernel
theorem dX12_readsItem_68 : decode cX12_readsItem 68 = .ok (.iaload, 1) := by decide +kernel
theorem dX12_readsItem_69 : decode cX12_readsItem 69 = .ok (.goto 4, 3) := by decide +kernel
theorem dX12_readsItem_72 : decode cX12_readsItem 72 = .ok (.iconst 0, 1) := by decide +kernel
theorem dX12_readsItem_73 : decode cX12_readsItem 73 = .ok (.iastore, 1) := by decide +kernel
theorem dX12_readsItem_74 : decode cX12_readsItem 74 = .ok (.iload_n 1, 1) := by decide +kernel
theorem dX12_readsItem_75 : decode cX12_readsItem 75 = .ok (.ireturn, 1) := by decide +kernel
theorem dX12_readsItem_76 : decode cX12_readsItem 76 = .ok (.aload_n 0, 1) := by decide +kernel
theorem dX12_readsItem_77 : decode cX12_readsItem 77 = .ok (.bipush 108, 2) := by decide +kernel
theorem dX12_readsItem_79 : decode cX12_readsItem 79 = .ok (.bipush 117, 2) := by decide +kernel
theorem dX12_readsItem_81 : decode cX12_readsItem 81 = .ok (.bipush 109, 2) := by decide +kernel
theorem dX12_readsItem_83 : decode cX12_readsItem 83 = .ok (.bipush 112, 2) := by decide +kernel
theorem dX12_readsItem_85 : decode cX12_readsItem 85 = .ok (.bipush 115, 2) := by decide +kernel
theorem dX12_readsItem_87 : decode cX12_readsItem 87 = .ok (.invokevirtual 251, 3) := by decide +kernel
theorem dX12_readsItem_90 : decode cX12_readsItem 90 = .ok (.ifCond .eq 84, 3) := by decide +kernel
theorem dX12_readsItem_93 : decode cX12_readsItem 93 = .ok (.aload_n 0, 1) := by decide +kernel
theorem dX12_readsItem_94 : decode cX12_readsItem 94 = .ok (.invokevirtual 248, 3) := by decide +kernel
theorem dX12_readsItem_97 : decode cX12_readsItem 97 = .ok (.aload_n 0, 1) := by decide +kernel
theorem dX12_readsItem_98 : decode cX12_readsItem 98 = .ok (.iconst 0, 1) := by decide +kernel
theorem dX12_readsItem_99 : decode cX12_readsItem 99 = .ok (.iconst 0, 1) := by decide +kernel
theorem dX12_readsItem_100 : decode cX12_readsItem 100 = .ok (.iconst 4, 1) := by decide +kernel
theorem dX12_readsItem_101 : decode cX12_readsItem 101 = .ok (.invokevirtual 255, 3) := by decide +kernel
theorem dX12_readsItem_104 : decode cX12_readsItem 104 = .ok (.ifCond .eq 32, 3) := by decide +kernel
theorem dX12_readsItem_107 : decode cX12_readsItem 107 = .ok (.aload_n 0, 1) := by decide +kernel
theorem dX12_readsItem_108 : decode cX12_readsItem 108 = .ok (.iconst 1, 1) := by decide +kernel
theorem dX12_readsItem_109 : decode cX12_readsItem 109 = .ok (.iconst 0, 1) := by decide +kernel
theorem dX12_readsItem_110 : decode cX12_readsItem 110 = .ok (.aload_n 0, 1) := by decide +kernel
theorem dX12_readsItem_111 : decode cX12_readsItem 111 = .ok (.invokevirtual 259, 3) := by decide +kernel
theorem dX12_readsItem_114 : decode cX12_readsItem 114 = .ok (.invokevirtual 255, 3) := by decide +kernel
theorem dX12_readsItem_117 : decode cX12_readsItem 117 = .ok (.ifCond .eq 19, 3) := by decide +kernel
theorem dX12_readsItem_120 : decode cX12_readsItem 120 = .ok (.aload_n 0, 1) := by decide +kernel
theorem dX12_readsItem_121 : decode cX12_readsItem 121 = .ok (.iconst 2, 1) := by decide +kernel
theorem dX12_readsItem_122 : decode cX12_readsItem 122 = .ok (.iconst 0, 1) := by decide +kernel
theorem dX12_readsItem_123 : decode cX12_readsItem 123 = .ok (.sipush 999, 3) := by decide +kernel
theorem dX12_readsItem_126 : decode cX12_readsItem 126 = .ok (.invokevirtual 255, 3) := by decide +kernel
theorem dX12_readsItem_129 : decode cX12_readsItem 129 = .ok (.ifCond .eq 7, 3) := by decide +kernel
theorem dX12_readsItem_132 : decode cX12_readsItem 132 = .ok (.iconst 1, 1) := by decide +kernel
theorem dX12_readsItem_133 : decode cX12_readsItem 133 = .ok (.goto 4, 3) := by decide +kernel
theorem dX12_readsItem_136 : decode cX12_readsItem 136 = .ok (.iconst 0, 1) := by decide +kernel
theorem dX12_readsItem_137 : decode cX12_readsItem 137 = .ok (.istore_n 1, 1) := by decide +kernel
theorem dX12_readsItem_138 : decode cX12_readsItem 138 = .ok (.iload_n 1, 1) := by decide +kernel
theorem dX12_readsItem_139 : decode cX12_readsItem 139 = .ok (.ifCond .eq 33, 3) := by decide +kernel
theorem dX12_readsItem_142 : decode cX12_readsItem 142 = .ok (.aload_n 0, 1) := by decide +kernel
theorem dX12_readsItem_143 : decode cX12_readsItem 143 = .ok (.getfield 48, 3) := by decide +kernel
theorem dX12_readsItem_146 : decode cX12_readsItem 146 = .ok (.bipush 6, 2) := by decide +kernel
theorem dX12_readsItem_148 : decode cX12_readsItem 148 = .ok (.bipush 24, 2) := by decide +kernel
theorem dX12_readsItem_150 : decode cX12_readsItem 150 = .ok (.aload_n 0, 1) := by decide +kernel
theorem dX12_readsItem_151 : decode cX12_readsItem 151 = .ok (.getfield 51, 3) := by decide +kernel
theorem dX12_readsItem_154 : decode cX12_readsItem 154 = .ok (.iconst 0, 1) := by decide +kernel
theorem dX12_readsItem_155 : decode cX12_readsItem 155 = .ok (.iaload, 1) := by decide +kernel
theorem dX12_readsItem_156 : decode cX12_readsItem 156 = .ok (.imul, 1) := by decide +kernel
theorem dX12_readsItem_157 : decode cX12_readsItem 157 = .ok (.iadd, 1) := by decide +kernel
theorem dX12_readsItem_158 : decode cX12_readsItem 158 = .ok (.aload_n 0, 1) := by decide +kernel
theorem dX12_readsItem_159 : decode cX12_readsItem 159 = .ok (.getfield 51, 3) := by decide +kernel
theorem dX12_readsItem_162 : decode cX12_readsItem 162 = .ok (.iconst 1, 1) := by decide +kernel
theorem dX12_readsItem_163 : decode cX12_readsItem 163 = .ok (.iaload, 1) := by decide +kernel
theorem dX12_readsItem_164 : decode cX12_readsItem 164 = .ok (.iadd, 1) := by decide +kernel
theorem dX12_readsItem_165 : decode cX12_readsItem 165 = .ok (.aload_n 0, 1) := by decide +kernel
theorem dX12_readsItem_166 : decode cX12_readsItem 166 = .ok (.getfield 51, 3) := by decide +kernel
theorem dX12_readsItem_169 : decode cX12_readsItem 169 = .ok (.iconst 2, 1) := by decide +kernel
theorem dX12_readsItem_170 : decode cX12_readsItem 170 = .ok (.iaload, 1) := by decide +kernel
theorem dX12_readsItem_171 : decode cX12_readsItem 171 = .ok (.iastore, 1) := by decide +kernel
theorem dX12_readsItem_172 : decode cX12_readsItem 172 = .ok (.iload_n 1, 1) := by decide +kernel
theorem dX12_readsItem_173 : decode cX12_readsItem 173 = .ok (.ireturn, 1) := by decide +kernel
theorem dX12_readsItem_174 : decode cX12_readsItem 174 = .ok (.aload_n 0, 1) := by decide +kernel
theorem dX12_readsItem_175 : decode cX12_readsItem 175 = .ok (.bipush 109, 2) := by decide +kernel
theorem dX12_readsItem_177 : decode cX12_readsItem 177 = .ok (.bipush 111, 2) := by decide +kernel
theorem dX12_readsItem_179 : decode cX12_readsItem 179 = .ok (.bipush 111, 2) := by decide +kernel
theorem dX12_readsItem_181 : decode cX12_readsItem 181 = .ok (.bipush 110, 2) := by decide +kernel
theorem dX12_readsItem_183 : decode cX12_readsItem 183 = .ok (.iconst 0, 1) := by decide +kernel
theorem dX12_readsItem_184 : decode cX12_readsItem 184 = .ok (.invokevirtual 251, 3) := by decide +kernel
theorem dX12_readsItem_187 : decode cX12_readsItem 187 = .ok (.ifCond .eq 14, 3) := by decide +kernel
theorem dX12_readsItem_190 : decode cX12_readsItem 190 = .ok (.aload_n 0, 1) := by decide +kernel
theorem dX12_readsItem_191 : decode cX12_readsItem 191 = .ok (.getfield 48, 3) := by decide +kernel
theorem dX12_readsItem_194 : decode cX12_readsItem 194 = .ok (.bipush 126, 2) := by decide +kernel
theorem dX12_readsItem_196 : decode cX12_readsItem 196 = .ok (.iaload, 1) := by decide +kernel
theorem dX12_readsItem_197 : decode cX12_readsItem 197 = .ok (.iconst 4, 1) := by decide +kernel
theorem dX12_readsItem_198 : decode cX12_readsItem 198 = .ok (.if_icmp .ne 5, 3) := by decide +kernel
theorem dX12_readsItem_201 : decode cX12_readsItem 201 = .ok (.iconst 0, 1) := by decide +kernel
theorem dX12_readsItem_202 : decode cX12_readsItem 202 = .ok (.ireturn, 1) := by decide +kernel
theorem dX12_readsItem_203 : decode cX12_readsItem 203 = .ok (.aload_n 0, 1) := by decide +kernel
theorem dX12_readsItem_204 : decode cX12_readsItem 204 = .ok (.invokevirtual 248, 3) := by decide +kernel
theorem dX12_readsItem_207 : decode cX12_readsItem 207 = .ok (.aload_n 0, 1) := by decide +kernel
theorem dX12_readsItem_208 : decode cX12_readsItem 208 = .ok (.iconst 0, 1) := by decide +kernel
theorem dX12_readsItem_209 : decode cX12_readsItem 209 = .ok (.iconst 0, 1) := by decide +kernel
theorem dX12_readsItem_210 : decode cX12_readsItem 210 = .ok (.iconst 4, 1) := by decide +kernel
theorem dX12_readsItem_211 : decode cX12_readsItem 211 = .ok (.invokevirtual 255, 3) := by decide +kernel
theorem dX12_readsItem_214 : decode cX12_readsItem 214 = .ok (.ifCond .eq 37, 3) := by decide +kernel
theorem dX12_readsItem_217 : decode cX12_readsItem 217 = .ok (.aload_n 0, 1) := by decide +kernel
theorem dX12_readsItem_218 : decode cX12_readsItem 218 = .ok (.iconst 1, 1) := by decide +kernel
theorem dX12_readsItem_219 : decode cX12_readsItem 219 = .ok (.iconst 0, 1) := by decide +kernel
theorem dX12_readsItem_220 : decode cX12_readsItem 220 = .ok (.iconst 5, 1) := by decide +kernel
theorem dX12_readsItem_221 : decode cX12_readsItem 221 = .ok (.invokevirtual 255, 3) := by decide +kernel
theorem dX12_readsItem_224 : decode cX12_readsItem 224 = .ok (.ifCond .eq 27, 3) := by decide +kernel
theorem dX12_readsItem_227 : decode cX12_readsItem 227 = .ok (.aload_n 0, 1) := by decide +kernel
theorem dX12_readsItem_228 : decode cX12_readsItem 228 = .ok (.iconst 2, 1) := by decide +kernel
theorem dX12_readsItem_229 : decode cX12_readsItem 229 = .ok (.iconst 0, 1) := by decide +kernel
theorem dX12_readsItem_230 : decode cX12_readsItem 230 = .ok (.aload_n 0, 1) := by decide +kernel
theorem dX12_readsItem_231 : decode cX12_readsItem 231 = .ok (.invokevirtual 259, 3) := by decide +kernel
theorem dX12_readsItem_234 : decode cX12_readsItem 234 = .ok (.invokevirtual 255, 3) := by decide +kernel
theorem dX12_readsItem_237 : decode cX12_readsItem 237 = .ok (.ifCond .eq 14, 3) := by decide +kernel
theorem dX12_readsItem_240 : decode cX12_readsItem 240 = .ok (.aload_n 0, 1) := by decide +kernel
theorem dX12_readsItem_241 : decode cX12_readsItem 241 = .ok (.iconst 3, 1) := by decide +kernel
theorem dX12_readsItem_242 : decode cX12_readsItem 242 = .ok (.iconst 0, 1) := by decide +kernel
theorem dX12_readsItem_243 : decode cX12_readsItem 243 = .ok (.bipush 9, 2) := by decide +kernel
theorem dX12_readsItem_245 : decode cX12_readsItem 245 = .ok (.invokevirtual 255, 3) := by decide +kernel
theorem dX12_readsItem_248 : decode cX12_readsItem 248 = .ok (.ifCond .ne 5, 3) := by decide +kernel
theorem dX12_readsItem_251 : decode cX12_readsItem 251 = .ok (.iconst 0, 1) := by decide +kernel
theorem dX12_readsItem_252 : decode cX12_readsItem 252 = .ok (.ireturn, 1) := by decide +kernel
theorem dX12_readsItem_253 : decode cX12_readsItem 253 = .ok (.aload_n 0, 1) := by decide +kernel
theorem dX12_readsItem_254 : decode cX12_readsItem 254 = .ok (.getfield 48, 3) := by decide +kernel
theorem dX12_readsItem_257 : decode cX12_readsItem 257 = .ok (.aload_n 0, 1) := by decide +kernel
theorem dX12_readsItem_258 : decode cX12_readsItem 258 = .ok (.getfield 51, 3) := by decide +kernel
theorem dX12_readsItem_261 : decode cX12_readsItem 261 = .ok (.iconst 0, 1) := by decide +kernel
theorem dX12_readsItem_262 : decode cX12_readsItem 262 = .ok (.iaload, 1) := by decide +kernel
theorem dX12_readsItem_263 : decode cX12_readsItem 263 = .ok (.aload_n 0, 1) := by decide +kernel
theorem dX12_readsItem_264 : decode cX12_readsItem 264 = .ok (.getfield 51, 3) := by decide +kernel
theorem dX12_readsItem_267 : decode cX12_readsItem 267 = .ok (.iconst 1, 1) := by decide +kernel
theorem dX12_readsItem_268 : decode cX12_readsItem 268 = .ok (.iaload, 1) := by decide +kernel
theorem dX12_readsItem_269 : decode cX12_readsItem 269 = .ok (.aload_n 0, 1) := by decide +kernel
theorem dX12_readsItem_270 : decode cX12_readsItem 270 = .ok (.getfield 51, 3) := by decide +kernel
theorem dX12_readsItem_273 : decode cX12_readsItem 273 = .ok (.iconst 2, 1) := by decide +kernel
theorem dX12_readsItem_274 : decode cX12_readsItem 274 = .ok (.iaload, 1) := by decide +kernel
theorem dX12_readsItem_275 : decode cX12_readsItem 275 = .ok (.aload_n 0, 1) := by decide +kernel
theorem dX12_readsItem_276 : decode cX12_readsItem 276 = .ok (.getfield 51, 3) := by decide +kernel
theorem dX12_readsItem_279 : decode cX12_readsItem 279 = .ok (.iconst 3, 1) := by decide +kernel
theorem dX12_readsItem_280 : decode cX12_readsItem 280 = .ok (.iaload, 1) := by decide +kernel
theorem dX12_readsItem_281 : decode cX12_readsItem 281 = .ok (.invokestatic 93, 3) := by decide +kernel
theorem dX12_readsItem_284 : decode cX12_readsItem 284 = .ok (.iconst 1, 1) := by decide +kernel
theorem dX12_readsItem_285 : decode cX12_readsItem 285 = .ok (.ireturn, 1) := by decide +kernel
theorem dX12_read_0 : decode cX12_read 0 = .ok (.aload_n 0, 1) := by decide +kernel
theorem dX12_read_1 : decode cX12_read 1 = .ok (.getfield 51, 3) := by decide +kernel
theorem dX12_read_4 : decode cX12_read 4 = .ok (.iconst 0, 1) := by decide +kernel
theorem dX12_read_5 : decode cX12_read 5 = .ok (.iconst 4, 1) := by decide +kernel
theorem dX12_read_6 : decode cX12_read 6 = .ok (.iastore, 1) := by decide +kernel
theorem dX12_read_7 : decode cX12_read 7 = .ok (.aload_n 0, 1) := by decide +kernel
theorem dX12_read_8 : decode cX12_read 8 = .ok (.iconst 0, 1) := by decide +kernel
theorem dX12_read_9 : decode cX12_read 9 = .ok (.invokevirtual 245, 3) := by decide +kernel
theorem dX12_read_12 : decode cX12_read 12 = .ok (.aload_n 0, 1) := by decide +kernel
theorem dX12_read_13 : decode cX12_read 13 = .ok (.invokevirtual 262, 3) := by decide +kernel
theorem dX12_read_16 : decode cX12_read 16 = .ok (.ifCond .ne 11, 3) := by decide +kernel
theorem dX12_read_19 : decode cX12_read 19 = .ok (.bipush (-10), 2) := by decide +kernel
theorem dX12_read_21 : decode cX12_read 21 = .ok (.aload_n 0, 1) := by decide +kernel
theorem dX12_read_22 : decode cX12_read 22 = .ok (.getfield 227, 3) := by decide +kernel
theorem dX12_read_25 : decode cX12_read 25 = .ok (.isub, 1) := by decide +kernel
theorem dX12_read_26 : decode cX12_read 26 = .ok (.ireturn, 1) := by decide +kernel
theorem dX12_read_27 : decode cX12_read 27 = .ok (.aload_n 0, 1) := by decide +kernel
theorem dX12_read_28 : decode cX12_read 28 = .ok (.invokevirtual 248, 3) := by decide +kernel
theorem dX12_read_31 : decode cX12_read 31 = .ok (.iconst 1, 1) := by decide +kernel
theorem dX12_read_32 : decode cX12_read 32 = .ok (.istore_n 1, 1) := by decide +kernel
theorem dX12_read_33 : decode cX12_read 33 = .ok (.aload_n 0, 1) := by decide +kernel
theorem dX12_read_34 : decode cX12_read 34 = .ok (.getfield 233, 3) := by decide +kernel
theorem dX12_read_37 : decode cX12_read 37 = .ok (.ifCond .eq 36, 3) := by decide +kernel
theorem dX12_read_40 : decode cX12_read 40 = .ok (.aload_n 0, 1) := by decide +kernel
theorem dX12_read_41 : decode cX12_read 41 = .ok (.invokevirtual 266, 3) := by decide +kernel
theorem dX12_read_44 : decode cX12_read 44 = .ok (.ifCond .eq 11, 3) := by decide +kernel
theorem dX12_read_47 : decode cX12_read 47 = .ok (.aload_n 0, 1) := by decide +kernel
theorem dX12_read_48 : decode cX12_read 48 = .ok (.getfield 233, 3) := by decide +kernel
theorem dX12_read_51 : decode cX12_read 51 = .ok (.iconst 3, 1) := by decide +kernel
theorem dX12_read_52 : decode cX12_read 52 = .ok (.if_icmp .eq 11, 3) := by decide +kernel
theorem dX12_read_55 : decode cX12_read 55 = .ok (.bipush (-10), 2) := by decide +kernel
theorem dX12_read_57 : decode cX12_read 57 = .ok (.aload_n 0, 1) := by decide +kernel
theorem dX12_read_58 : decode cX12_read 58 = .ok (.getfield 227, 3) := by decide +kernel
theorem dX12_read_61 : decode cX12_read 61 = .ok (.isub, 1) := by decide +kernel
theorem dX12_read_62 : decode cX12_read 62 = .ok (.ireturn, 1) := by decide +kernel
theorem dX12_read_63 : decode cX12_read 63 = .ok (.aload_n 0, 1) := by decide +kernel
theorem dX12_read_64 : decode cX12_read 64 = .ok (.invokevirtual 248, 3) := by decide +kernel
theorem dX12_read_67 : decode cX12_read 67 = .ok (.iinc 1 1, 3) := by decide +kernel
theorem dX12_read_70 : decode cX12_read 70 = .ok (.goto (-37), 3) := by decide +kernel
theorem dX12_read_73 : decode cX12_read 73 = .ok (.iconst 0, 1) := by decide +kernel
theorem dX12_read_74 : decode cX12_read 74 = .ok (.istore_n 2, 1) := by decide +kernel
theorem dX12_read_75 : decode cX12_read 75 = .ok (.iload_n 2, 1) := by decide +kernel
theorem dX12_read_76 : decode cX12_read 76 = .ok (.sipush 151, 3) := by decide +kernel
theorem dX12_read_79 : decode cX12_read 79 = .ok (.if_icmp .ge 21, 3) := by decide +kernel
theorem dX12_read_82 : decode cX12_read 82 = .ok (.aload_n 0, 1) := by decide +kernel
theorem dX12_read_83 : decode cX12_read 83 = .ok (.getfield 7, 3) := by decide +kernel
theorem dX12_read_86 : decode cX12_read 86 = .ok (.iload_n 2, 1) := by decide +kernel
theorem dX12_read_87 : decode cX12_read 87 = .ok (.aload_n 0, 1) := by decide +kernel
theorem dX12_read_88 : decode cX12_read 88 = .ok (.getfield 48, 3) := by decide +kernel
theorem dX12_read_91 : decode cX12_read 91 = .ok (.iload_n 2, 1) := by decide +kernel
theorem dX12_read_92 : decode cX12_read 92 = .ok (.iaload, 1) := by decide +kernel
theorem dX12_read_93 : decode cX12_read 93 = .ok (.iastore, 1) := by decide +kernel
theorem dX12_read_94 : decode cX12_read 94 = .ok (.iinc 2 1, 3) := by decide +kernel
theorem dX12_read_97 : decode cX12_read 97 = .ok (.goto (-22), 3) := by decide +kernel
theorem dX12_read_100 : decode cX12_read 100 = .ok (.iload_n 1, 1) := by decide +kernel
theorem dX12_read_101 : decode cX12_read 101 = .ok (.ireturn, 1) := by decide +kernel
theorem dX12_part_0 : decode cX12_part 0 = .ok (.iload_n 1, 1) := by decide +kernel
theorem dX12_part_1 : decode cX12_part 1 = .ok (.ifCond .ne 10, 3) := by decide +kernel
theorem dX12_part_4 : decode cX12_part 4 = .ok (.aload_n 0, 1) := by decide +kernel
theorem dX12_part_5 : decode cX12_part 5 = .ok (.getfield 209, 3) := by decide +kernel
theorem dX12_part_8 : decode cX12_part 8 = .ok (.goto 22, 3) := by decide +kernel
theorem dX12_part_11 : decode cX12_part 11 = .ok (.iload_n 1, 1) := by decide +kernel
theorem dX12_part_12 : decode cX12_part 12 = .ok (.iconst 1, 1) := by decide +kernel
theorem dX12_part_13 : decode cX12_part 13 = .ok (.if_icmp .ne 10, 3) := by decide +kernel
theorem dX12_part_16 : decode cX12_part 16 = .ok (.aload_n 0, 1) := by decide +kernel
theorem dX12_part_17 : decode cX12_part 17 = .ok (.getfield 23, 3) := by decide +kernel
theorem dX12_part_20 : decode cX12_part 20 = .ok (.goto 10, 3) := by decide +kernel
theorem dX12_part_23 : decode cX12_part 23 = .ok (.aload_n 0, 1) := by decide +kernel
theorem dX12_part_24 : decode cX12_part 24 = .ok (.ldc 198, 2) := by decide +kernel
theorem dX12_part_26 : decode cX12_part 26 = .ok (.invokevirtual 73, 3) := by decide +kernel
theorem dX12_part_29 : decode cX12_part 29 = .ok (.i2l, 1) := by decide +kernel
theorem dX12_part_30 : decode cX12_part 30 = .ok (.lreturn, 1) := by decide +kernel
theorem dX12_image_0 : decode cX12_image 0 = .ok (.iload_n 1, 1) := by decide +kernel
theorem dX12_image_1 : decode cX12_image 1 = .ok (.i2l, 1) := by decide +kernel
theorem dX12_image_2 : decode cX12_image 2 = .ok (.lconst 0, 1) := by decide +kernel
theorem dX12_image_3 : decode cX12_image 3 = .ok (.lconst 1, 1) := by decide +kernel
theorem dX12_image_4 : decode cX12_image 4 = .ok (.invokestatic 60, 3) := by decide +kernel
theorem dX12_image_7 : decode cX12_image 7 = .ok (.ifCond .ne 10, 3) := by decide +kernel
theorem dX12_image_10 : decode cX12_image 10 = .ok (.aload_n 0, 1) := by decide +kernel
theorem dX12_image_11 : decode cX12_image 11 = .ok (.bipush (-2), 2) := by decide +kernel
theorem dX12_image_13 : decode cX12_image 13 = .ok (.invokevirtual 73, 3) := by decide +kernel
theorem dX12_image_16 : decode cX12_image 16 = .ok (.ireturn, 1) := by decide +kernel
theorem dX12_image_17 : decode cX12_image 17 = .ok (.iconst 0, 1) := by decide +kernel
theorem dX12_image_18 : decode cX12_image 18 = .ok (.istore_n 2, 1) := by decide +kernel
theorem dX12_image_19 : decode cX12_image 19 = .ok (.iload_n 2, 1) := by decide +kernel
theorem dX12_image_20 : decode cX12_image 20 = .ok (.sipush 913, 3) := by decide +kernel
theorem dX12_image_23 : decode cX12_image 23 = .ok (.if_icmp .ge 27, 3) := by decide +kernel
theorem dX12_image_26 : decode cX12_image 26 = .ok (.aload_n 0, 1) := by decide +kernel
theorem dX12_image_27 : decode cX12_image 27 = .ok (.getfield 13, 3) := by decide +kernel
theorem dX12_image_30 : decode cX12_image 30 = .ok (.sipush 913, 3) := by decide +kernel
theorem dX12_image_33 : decode cX12_image 33 = .ok (.iload_n 1, 1) := by decide +kernel
theorem dX12_image_34 : decode cX12_image 34 = .ok (.imul, 1) := by decide +kernel
theorem dX12_image_35 : decode cX12_image 35 = .ok (.iload_n 2, 1) := by decide +kernel
theorem dX12_image_36 : decode cX12_image 36 = .ok (.iadd, 1) := by decide +kernel
theorem dX12_image_37 : decode cX12_image 37 = .ok (.aload_n 0, 1) := by decide +kernel
theorem dX12_image_38 : decode cX12_image 38 = .ok (.getfield 7, 3) := by decide +kernel
theorem dX12_image_41 : decode cX12_image 41 = .ok (.iload_n 2, 1) := by decide +kernel
theorem dX12_image_42 : decode cX12_image 42 = .ok (.iaload, 1) := by decide +kernel
theorem dX12_image_43 : decode cX12_image 43 = .ok (.iastore, 1) := by decide +kernel
theorem dX12_image_44 : decode cX12_image 44 = .ok (.iinc 2 1, 3) := by decide +kernel
theorem dX12_image_47 : decode cX12_image 47 = .ok (.goto (-28), 3) := by decide +kernel
theorem dX12_image_50 : decode cX12_image 50 = .ok (.aload_n 0, 1) := by decide +kernel
theorem dX12_image_51 : decode cX12_image 51 = .ok (.getfield 16, 3) := by decide +kernel
theorem dX12_image_54 : decode cX12_image 54 = .ok (.iload_n 1, 1) := by decide +kernel
theorem dX12_image_55 : decode cX12_image 55 = .ok (.iconst 1, 1) := by decide +kernel
theorem dX12_image_56 : decode cX12_image 56 = .ok (.bastore, 1) := by decide +kernel
theorem dX12_image_57 : decode cX12_image 57 = .ok (.iconst 1, 1) := by decide +kernel
theorem dX12_image_58 : decode cX12_image 58 = .ok (.ireturn, 1) := by decide +kernel
theorem dX12_from_0 : decode cX12_from 0 = .ok (.iload_n 1, 1) := by decide +kernel
theorem dX12_from_1 : decode cX12_from 1 = .ok (.i2l, 1) := by decide +kernel
theorem dX12_from_2 : decode cX12_from 2 = .ok (.lconst 0, 1) := by decide +kernel
theorem dX12_from_3 : decode cX12_from 3 = .ok (.lconst 1, 1) := by decide +kernel
theorem dX12_from_4 : decode cX12_from 4 = .ok (.invokestatic 60, 3) := by decide +kernel
theorem dX12_from_7 : decode cX12_from 7 = .ok (.ifCond .ne 10, 3) := by decide +kernel
theorem dX12_from_10 : decode cX12_from 10 = .ok (.aload_n 0, 1) := by decide +kernel
theorem dX12_from_11 : decode cX12_from 11 = .ok (.bipush (-2), 2) := by decide +kernel
theorem dX12_from_13 : decode cX12_from 13 = .ok (.invokevirtual 73, 3) := by decide +kernel
theorem dX12_from_16 : decode cX12_from 16 = .ok (.ireturn, 1) := by decide +kernel
theorem dX12_from_17 : decode cX12_from 17 = .ok (.aload_n 0, 1) := by decide +kernel
theorem dX12_from_18 : decode cX12_from 18 = .ok (.getfield 16, 3) := by decide +kernel
theorem dX12_from_21 : decode cX12_from 21 = .ok (.iload_n 1, 1) := by decide +kernel
theorem dX12_from_22 : decode cX12_from 22 = .ok (.baload, 1) := by decide +kernel
theorem dX12_from_23 : decode cX12_from 23 = .ok (.ifCond .ne 8, 3) := by decide +kernel
theorem dX12_from_26 : decode cX12_from 26 = .ok (.aload_n 0, 1) := by decide +kernel
theorem dX12_from_27 : decode cX12_from 27 = .ok (.invokevirtual 137, 3) := by decide +kernel
theorem dX12_from_30 : decode cX12_from 30 = .ok (.ireturn, 1) := by decide +kernel
theorem dX12_from_31 : decode cX12_from 31 = .ok (.iconst 0, 1) := by decide +kernel
theorem dX12_from_32 : decode cX12_from 32 = .ok (.istore_n 2, 1) := by decide +kernel
theorem dX12_from_33 : decode cX12_from 33 = .ok (.iload_n 2, 1) := by decide +kernel
theorem dX12_from_34 : decode cX12_from 34 = .ok (.sipush 913, 3) := by decide +kernel
theorem dX12_from_37 : decode cX12_from 37 = .ok (.if_icmp .ge 27, 3) := by decide +kernel
theorem dX12_from_40 : decode cX12_from 40 = .ok (.aload_n 0, 1) := by decide +kernel
theorem dX12_from_41 : decode cX12_from 41 = .ok (.getfield 7, 3) := by decide +kernel
theorem dX12_from_44 : decode cX12_from 44 = .ok (.iload_n 2, 1) := by decide +kernel
theorem dX12_from_45 : decode cX12_from 45 = .ok (.aload_n 0, 1) := by decide +kernel
theorem dX12_from_46 : decode cX12_from 46 = .ok (.getfield 13, 3) := by decide +kernel
theorem dX12_from_49 : decode cX12_from 49 = .ok (.sipush 913, 3) := by decide +kernel
theorem dX12_from_52 : decode cX12_from 52 = .ok (.iload_n 1, 1) := by decide +kernel
theorem dX12_from_53 : decode cX12_from 53 = .ok (.imul, 1) := by decide +kernel
theorem dX12_from_54 : decode cX12_from 54 = .ok (.iload_n 2, 1) := by decide +kernel
theorem dX12_from_55 : decode cX12_from 55 = .ok (.iadd, 1) := by decide +kernel
theorem dX12_from_56 : decode cX12_from 56 = .ok (.iaload, 1) := by decide +kernel
theorem dX12_from_57 : decode cX12_from 57 = .ok (.iastore, 1) := by decide +kernel
theorem dX12_from_58 : decode cX12_from 58 = .ok (.iinc 2 1, 3) := by decide +kernel
theorem dX12_from_61 : decode cX12_from 61 = .ok (.goto (-28), 3) := by decide +kernel
theorem dX12_from_64 : decode cX12_from 64 = .ok (.iconst 1, 1) := by decide +kernel
theorem dX12_from_65 : decode cX12_from 65 = .ok (.ireturn, 1) := by decide +kernel
theorem dX12_status_0 : decode cX12_status 0 = .ok (.iload_n 1, 1) := by decide +kernel
theorem dX12_status_1 : decode cX12_status 1 = .ok (.i2l, 1) := by decide +kernel
theorem dX12_status_2 : decode cX12_status 2 = .ok (.lconst 0, 1) := by decide +kernel
theorem dX12_status_3 : decode cX12_status 3 = .ok (.ldc2_w 166, 3) := by decide +kernel
theorem dX12_status_6 : decode cX12_status 6 = .ok (.invokestatic 60, 3) := by decide +kernel
theorem dX12_status_9 : decode cX12_status 9 = .ok (.ifCond .eq 12, 3) := by decide +kernel
theorem dX12_status_12 : decode cX12_status 12 = .ok (.aload_n 0, 1) := by decide +kernel
theorem dX12_status_13 : decode cX12_status 13 = .ok (.getfield 20, 3) := by decide +kernel
theorem dX12_status_16 : decode cX12_status 16 = .ok (.iload_n 1, 1) := by decide +kernel
theorem dX12_status_17 : decode cX12_status 17 = .ok (.iaload, 1) := by decide +kernel
theorem dX12_status_18 : decode cX12_status 18 = .ok (.goto 8, 3) := by decide +kernel
theorem dX12_status_21 : decode cX12_status 21 = .ok (.aload_n 0, 1) := by decide +kernel
theorem dX12_status_22 : decode cX12_status 22 = .ok (.iconst (-1), 1) := by decide +kernel
theorem dX12_status_23 : decode cX12_status 23 = .ok (.invokevirtual 73, 3) := by decide +kernel
theorem dX12_status_26 : decode cX12_status 26 = .ok (.ireturn, 1) := by decide +kernel
theorem dX12_counted_0 : decode cX12_counted 0 = .ok (.iload_n 1, 1) := by decide +kernel
theorem dX12_counted_1 : decode cX12_counted 1 = .ok (.tableswitch 88 0 5 #[39, 44, 56, 61, 70, 79], 39) := by decide +kernel
theorem dX12_counted_40 : decode cX12_counted 40 = .ok (.aload_n 0, 1) := by decide +kernel
theorem dX12_counted_41 : decode cX12_counted 41 = .ok (.invokevirtual 64, 3) := by decide +kernel
theorem dX12_counted_44 : decode cX12_counted 44 = .ok (.ireturn, 1) := by decide +kernel
theorem dX12_counted_45 : decode cX12_counted 45 = .ok (.aload_n 0, 1) := by decide +kernel
theorem dX12_counted_46 : decode cX12_counted 46 = .ok (.getfield 7, 3) := by decide +kernel
theorem dX12_counted_49 : decode cX12_counted 49 = .ok (.bipush 6, 2) := by decide +kernel
theorem dX12_counted_51 : decode cX12_counted 51 = .ok (.bipush 120, 2) := by decide +kernel
theorem dX12_counted_53 : decode cX12_counted 53 = .ok (.invokestatic 140, 3) := by decide +kernel
theorem dX12_counted_56 : decode cX12_counted 56 = .ok (.ireturn, 1) := by decide +kernel
theorem dX12_counted_57 : decode cX12_counted 57 = .ok (.aload_n 0, 1) := by decide +kernel
theorem dX12_counted_58 : decode cX12_counted 58 = .ok (.invokevirtual 68, 3) := by decide +kernel
theorem dX12_counted_61 : decode cX12_counted 61 = .ok (.ireturn, 1) := by decide +kernel
theorem dX12_counted_62 : decode cX12_counted 62 = .ok (.aload_n 0, 1) := by decide +kernel
theorem dX12_counted_63 : decode cX12_counted 63 = .ok (.getfield 7, 3) := by decide +kernel
theorem dX12_counted_66 : decode cX12_counted 66 = .ok (.sipush 148, 3) := by decide +kernel
theorem dX12_counted_69 : decode cX12_counted 69 = .ok (.iaload, 1) := by decide +kernel
theorem dX12_counted_70 : decode cX12_counted 70 = .ok (.ireturn, 1) := by decide +kernel
theorem dX12_counted_71 : decode cX12_counted 71 = .ok (.aload_n 0, 1) := by decide +kernel
theorem dX12_counted_72 : decode cX12_counted 72 = .ok (.getfield 7, 3) := by decide +kernel
theorem dX12_counted_75 : decode cX12_counted 75 = .ok (.sipush 149, 3) := by decide +kernel
theorem dX12_counted_78 : decode cX12_counted 78 = .ok (.iaload, 1) := by decide +kernel
theorem dX12_counted_79 : decode cX12_counted 79 = .ok (.ireturn, 1) := by decide +kernel
theorem dX12_counted_80 : decode cX12_counted 80 = .ok (.aload_n 0, 1) := by decide +kernel
theorem dX12_counted_81 : decode cX12_counted 81 = .ok (.getfield 7, 3) := by decide +kernel
theorem dX12_counted_84 : decode cX12_counted 84 = .ok (.sipush 150, 3) := by decide +kernel
theorem dX12_counted_87 : decode cX12_counted 87 = .ok (.iaload, 1) := by decide +kernel
theorem dX12_counted_88 : decode cX12_counted 88 = .ok (.ireturn, 1) := by decide +kernel
theorem dX12_counted_89 : decode cX12_counted 89 = .ok (.aload_n 0, 1) := by decide +kernel
theorem dX12_counted_90 : decode cX12_counted 90 = .ok (.getfield 214, 3) := by decide +kernel
theorem dX12_counted_93 : decode cX12_counted 93 = .ok (.ireturn, 1) := by decide +kernel
theorem dX12_count_0 : decode cX12_count 0 = .ok (.iload_n 1, 1) := by decide +kernel
theorem dX12_count_1 : decode cX12_count 1 = .ok (.i2l, 1) := by decide +kernel
theorem dX12_count_2 : decode cX12_count 2 = .ok (.lconst 0, 1) := by decide +kernel
theorem dX12_count_3 : decode cX12_count 3 = .ok (.ldc2_w 196, 3) := by decide +kernel
theorem dX12_count_6 : decode cX12_count 6 = .ok (.invokestatic 60, 3) := by decide +kernel
theorem dX12_count_9 : decode cX12_count 9 = .ok (.ifCond .eq 11, 3) := by decide +kernel
theorem dX12_count_12 : decode cX12_count 12 = .ok (.aload_n 0, 1) := by decide +kernel
theorem dX12_count_13 : decode cX12_count 13 = .ok (.iload_n 1, 1) := by decide +kernel
theorem dX12_count_14 : decode cX12_count 14 = .ok (.invokevirtual 269, 3) := by decide +kernel
theorem dX12_count_17 : decode cX12_count 17 = .ok (.goto 9, 3) := by decide +kernel
theorem dX12_count_20 : decode cX12_count 20 = .ok (.aload_n 0, 1) := by decide +kernel
theorem dX12_count_21 : decode cX12_count 21 = .ok (.bipush (-2), 2) := by decide +kernel
theorem dX12_count_23 : decode cX12_count 23 = .ok (.invokevirtual 73, 3) := by decide +kernel
theorem dX12_count_26 : decode cX12_count 26 = .ok (.ireturn, 1) := by decide +kernel
theorem dX12_sums_0 : decode cX12_sums 0 = .ok (.lload_n 1, 1) := by decide +kernel
theorem dX12_sums_1 : decode cX12_sums 1 = .ok (.lstore 5, 2) := by decide +kernel
theorem dX12_sums_3 : decode cX12_sums 3 = .ok (.iconst 0, 1) := by decide +kernel
theorem dX12_sums_4 : decode cX12_sums 4 = .ok (.istore 7, 2) := by decide +kernel
theorem dX12_sums_6 : decode cX12_sums 6 = .ok (.iload 7, 2) := by decide +kernel
theorem dX12_sums_8 : decode cX12_sums 8 = .ok (.iload 4, 2) := by decide +kernel
theorem dX12_sums_10 : decode cX12_sums 10 = .ok (.if_icmp .ge 28, 3) := by decide +kernel
theorem dX12_sums_13 : decode cX12_sums 13 = .ok (.ldc2_w 272, 3) := by decide +kernel
theorem dX12_sums_16 : decode cX12_sums 16 = .ok (.lload 5, 2) := by decide +kernel
theorem dX12_sums_18 : decode cX12_sums 18 = .ok (.lmul, 1) := by decide +kernel
theorem dX12_sums_19 : decode cX12_sums 19 = .ok (.aload_n 0, 1) := by decide +kernel
theorem dX12_sums_20 : decode cX12_sums 20 = .ok (.getfield 7, 3) := by decide +kernel
theorem dX12_sums_23 : decode cX12_sums 23 = .ok (.iload_n 3, 1) := by decide +kernel
theorem dX12_sums_24 : decode cX12_sums 24 = .ok (.iload 7, 2) := by decide +kernel
theorem dX12_sums_26 : decode cX12_sums 26 = .ok (.iadd, 1) := by decide +kernel
theorem dX12_sums_27 : decode cX12_sums 27 = .ok (.iaload, 1) := by decide +kernel
theorem dX12_sums_28 : decode cX12_sums 28 = .ok (.i2l, 1) := by decide +kernel
theorem dX12_sums_29 : decode cX12_sums 29 = .ok (.ladd, 1) := by decide +kernel
theorem dX12_sums_30 : decode cX12_sums 30 = .ok (.lstore 5, 2) := by decide +kernel
theorem dX12_sums_32 : decode cX12_sums 32 = .ok (.iinc 7 1, 3) := by decide +kernel
theorem dX12_sums_35 : decode cX12_sums 35 = .ok (.goto (-29), 3) := by decide +kernel
theorem dX12_sums_38 : decode cX12_sums 38 = .ok (.lload 5, 2) := by decide +kernel
theorem dX12_sums_40 : decode cX12_sums 40 = .ok (.lreturn, 1) := by decide +kernel
theorem dX12_digest_0 : decode cX12_digest 0 = .ok (.ldc2_w 274, 3) := by decide +kernel
theorem dX12_digest_3 : decode cX12_digest 3 = .ok (.lstore_n 1, 1) := by decide +kernel
theorem dX12_digest_4 : decode cX12_digest 4 = .ok (.iconst 0, 1) := by decide +kernel
theorem dX12_digest_5 : decode cX12_digest 5 = .ok (.istore_n 3, 1) := by decide +kernel
theorem dX12_digest_6 : decode cX12_digest 6 = .ok (.iload_n 3, 1) := by decide +kernel
theorem dX12_digest_7 : decode cX12_digest 7 = .ok (.bipush 7, 2) := by decide +kernel
theorem dX12_digest_9 : decode cX12_digest 9 = .ok (.if_icmp .ge 22, 3) := by decide +kernel
theorem dX12_digest_12 : decode cX12_digest 12 = .ok (.ldc2_w 272, 3) := by decide +kernel
theorem dX12_digest_15 : decode cX12_digest 15 = .ok (.lload_n 1, 1) := by decide +kernel
theorem dX12_digest_16 : decode cX12_digest 16 = .ok (.lmul, 1) := by decide +kernel
theorem dX12_digest_17 : decode cX12_digest 17 = .ok (.aload_n 0, 1) := by decide +kernel
theorem dX12_digest_18 : decode cX12_digest 18 = .ok (.iload_n 3, 1) := by decide +kernel
theorem dX12_digest_19 : decode cX12_digest 19 = .ok (.invokevirtual 269, 3) := by decide +kernel
theorem dX12_digest_22 : decode cX12_digest 22 = .ok (.i2l, 1) := by decide +kernel
theorem dX12_digest_23 : decode cX12_digest 23 = .ok (.ladd, 1) := by decide +kernel
theorem dX12_digest_24 : decode cX12_digest 24 = .ok (.lstore_n 1, 1) := by decide +kernel
theorem dX12_digest_25 : decode cX12_digest 25 = .ok (.iinc 3 1, 3) := by decide +kernel
theorem dX12_digest_28 : decode cX12_digest 28 = .ok (.goto (-22), 3) := by decide +kernel
theorem dX12_digest_31 : decode cX12_digest 31 = .ok (.iconst 0, 1) := by decide +kernel
theorem dX12_digest_32 : decode cX12_digest 32 = .ok (.istore_n 3, 1) := by decide +kernel
theorem dX12_digest_33 : decode cX12_digest 33 = .ok (.iload_n 3, 1) := by decide +kernel
theorem dX12_digest_34 : decode cX12_digest 34 = .ok (.iconst 5, 1) := by decide +kernel
theorem dX12_digest_35 : decode cX12_digest 35 = .ok (.if_icmp .ge 58, 3) := by decide +kernel
theorem dX12_digest_38 : decode cX12_digest 38 = .ok (.ldc2_w 272, 3) := by decide +kernel
theorem dX12_digest_41 : decode cX12_digest 41 = .ok (.ldc2_w 272, 3) := by decide +kernel
theorem dX12_digest_44 : decode cX12_digest 44 = .ok (.lload_n 1, 1) := by decide +kernel
theorem dX12_digest_45 : decode cX12_digest 45 = .ok (.lmul, 1) := by decide +kernel
theorem dX12_digest_46 : decode cX12_digest 46 = .ok (.aload_n 0, 1) := by decide +kernel
theorem dX12_digest_47 : decode cX12_digest 47 = .ok (.getfield 7, 3) := by decide +kernel
theorem dX12_digest_50 : decode cX12_digest 50 = .ok (.iconst 1, 1) := by decide +kernel
theorem dX12_digest_51 : decode cX12_digest 51 = .ok (.iload_n 3, 1) := by decide +kernel
theorem dX12_digest_52 : decode cX12_digest 52 = .ok (.iadd, 1) := by decide +kernel
theorem dX12_digest_53 : decode cX12_digest 53 = .ok (.iaload, 1) := by decide +kernel
theorem dX12_digest_54 : decode cX12_digest 54 = .ok (.i2l, 1) := by decide +kernel
theorem dX12_digest_55 : decode cX12_digest 55 = .ok (.ladd, 1) := by decide +kernel
theorem dX12_digest_56 : decode cX12_digest 56 = .ok (.lmul, 1) := by decide +kernel
theorem dX12_digest_57 : decode cX12_digest 57 = .ok (.aload_n 0, 1) := by decide +kernel
theorem dX12_digest_58 : decode cX12_digest 58 = .ok (.getfield 7, 3) := by decide +kernel
theorem dX12_digest_61 : decode cX12_digest 61 = .ok (.sipush 143, 3) := by decide +kernel
theorem dX12_digest_64 : decode cX12_digest 64 = .ok (.iload_n 3, 1) := by decide +kernel
theorem dX12_digest_65 : decode cX12_digest 65 = .ok (.iadd, 1) := by decide +kernel
theorem dX12_digest_66 : decode cX12_digest 66 = .ok (.iaload, 1) := by decide +kernel
theorem dX12_digest_67 : decode cX12_digest 67 = .ok (.i2l, 1) := by decide +kernel
theorem dX12_digest_68 : decode cX12_digest 68 = .ok (.ladd, 1) := by decide +kernel
theorem dX12_digest_69 : decode cX12_digest 69 = .ok (.lstore_n 1, 1) := by decide +kernel
theorem dX12_digest_70 : decode cX12_digest 70 = .ok (.aload_n 0, 1) := by decide +kernel
theorem dX12_digest_71 : decode cX12_digest 71 = .ok (.lload_n 1, 1) := by decide +kernel
theorem dX12_digest_72 : decode cX12_digest 72 = .ok (.bipush 6, 2) := by decide +kernel
theorem dX12_digest_74 : decode cX12_digest 74 = .ok (.bipush 24, 2) := by decide +kernel
theorem dX12_digest_76 : decode cX12_digest 76 = .ok (.iload_n 3, 1) := by decide +kernel
theorem dX12_digest_77 : decode cX12_digest 77 = .ok (.imul, 1) := by decide +kernel
theorem dX12_digest_78 : decode cX12_digest 78 = .ok (.iadd, 1) := by decide +kernel
theorem dX12_digest_79 : decode cX12_digest 79 = .ok (.aload_n 0, 1) := by decide +kernel
theorem dX12_digest_80 : decode cX12_digest 80 = .ok (.invokevirtual 64, 3) := by decide +kernel
theorem dX12_digest_83 : decode cX12_digest 83 = .ok (.invokevirtual 276, 3) := by decide +kernel
theorem dX12_digest_86 : decode cX12_digest 86 = .ok (.lstore_n 1, 1) := by decide +kernel
theorem dX12_digest_87 : decode cX12_digest 87 = .ok (.iinc 3 1, 3) := by decide +kernel
theorem dX12_digest_90 : decode cX12_digest 90 = .ok (.goto (-57), 3) := by decide +kernel
theorem dX12_digest_93 : decode cX12_digest 93 = .ok (.aload_n 0, 1) := by decide +kernel
theorem dX12_digest_94 : decode cX12_digest 94 = .ok (.lload_n 1, 1) := by decide +kernel
theorem dX12_digest_95 : decode cX12_digest 95 = .ok (.bipush 127, 2) := by decide +kernel
theorem dX12_digest_97 : decode cX12_digest 97 = .ok (.iconst 4, 1) := by decide +kernel
theorem dX12_digest_98 : decode cX12_digest 98 = .ok (.aload_n 0, 1) := by decide +kernel
theorem dX12_digest_99 : decode cX12_digest 99 = .ok (.invokevirtual 68, 3) := by decide +kernel
theorem dX12_digest_102 : decode cX12_digest 102 = .ok (.imul, 1) := by decide +kernel
theorem dX12_digest_103 : decode cX12_digest 103 = .ok (.invokevirtual 276, 3) := by decide +kernel
theorem dX12_digest_106 : decode cX12_digest 106 = .ok (.lstore_n 1, 1) := by decide +kernel
theorem dX12_digest_107 : decode cX12_digest 107 = .ok (.ldc2_w 272, 3) := by decide +kernel
theorem dX12_digest_110 : decode cX12_digest 110 = .ok (.ldc2_w 272, 3) := by decide +kernel
theorem dX12_digest_113 : decode cX12_digest 113 = .ok (.lload_n 1, 1) := by decide +kernel
theorem dX12_digest_114 : decode cX12_digest 114 = .ok (.lmul, 1) := by decide +kernel
theorem dX12_digest_115 : decode cX12_digest 115 = .ok (.aload_n 0, 1) := by decide +kernel
theorem dX12_digest_116 : decode cX12_digest 116 = .ok (.getfield 209, 3) := by decide +kernel
theorem dX12_digest_119 : decode cX12_digest 119 = .ok (.ladd, 1) := by decide +kernel
theorem dX12_digest_120 : decode cX12_digest 120 = .ok (.lmul, 1) := by decide +kernel
theorem dX12_digest_121 : decode cX12_digest 121 = .ok (.aload_n 0, 1) := by decide +kernel
theorem dX12_digest_122 : decode cX12_digest 122 = .ok (.getfield 23, 3) := by decide +kernel
theorem dX12_digest_125 : decode cX12_digest 125 = .ok (.ladd, 1) := by decide +kernel
theorem dX12_digest_126 : decode cX12_digest 126 = .ok (.lreturn, 1) := by decide +kernel
theorem dJ6_bitCount_0f7a4_0 : decode cJ6_bitCount_0f7a4 0 = .ok (.iload_n 0, 1) := by decide +kernel
theorem dJ6_bitCount_0f7a4_1 : decode cJ6_bitCount_0f7a4 1 = .ok (.iload_n 0, 1) := by decide +kernel
theorem dJ6_bitCount_0f7a4_2 : decode cJ6_bitCount_0f7a4 2 = .ok (.iconst 1, 1) := by decide +kernel
theorem dJ6_bitCount_0f7a4_3 : decode cJ6_bitCount_0f7a4 3 = .ok (.iushr, 1) := by decide +kernel
theorem dJ6_bitCount_0f7a4_4 : decode cJ6_bitCount_0f7a4 4 = .ok (.ldc_w 265, 3) := by decide +kernel
theorem dJ6_bitCount_0f7a4_7 : decode cJ6_bitCount_0f7a4 7 = .ok (.iand, 1) := by decide +kernel
theorem dJ6_bitCount_0f7a4_8 : decode cJ6_bitCount_0f7a4 8 = .ok (.isub, 1) := by decide +kernel
theorem dJ6_bitCount_0f7a4_9 : decode cJ6_bitCount_0f7a4 9 = .ok (.istore_n 0, 1) := by decide +kernel
theorem dJ6_bitCount_0f7a4_10 : decode cJ6_bitCount_0f7a4 10 = .ok (.iload_n 0, 1) := by decide +kernel
theorem dJ6_bitCount_0f7a4_11 : decode cJ6_bitCount_0f7a4 11 = .ok (.ldc_w 266, 3) := by decide +kernel
theorem dJ6_bitCount_0f7a4_14 : decode cJ6_bitCount_0f7a4 14 = .ok (.iand, 1) := by decide +kernel
theorem dJ6_bitCount_0f7a4_15 : decode cJ6_bitCount_0f7a4 15 = .ok (.iload_n 0, 1) := by decide +kernel
theorem dJ6_bitCount_0f7a4_16 : decode cJ6_bitCount_0f7a4 16 = .ok (.iconst 2, 1) := by decide +kernel
theorem dJ6_bitCount_0f7a4_17 : decode cJ6_bitCount_0f7a4 17 = .ok (.iushr, 1) := by decide +kernel
theorem dJ6_bitCount_0f7a4_18 : decode cJ6_bitCount_0f7a4 18 = .ok (.ldc_w 266, 3) := by decide +kernel
theorem dJ6_bitCount_0f7a4_21 : decode cJ6_bitCount_0f7a4 21 = .ok (.iand, 1) := by decide +kernel
theorem dJ6_bitCount_0f7a4_22 : decode cJ6_bitCount_0f7a4 22 = .ok (.iadd, 1) := by decide +kernel
theorem dJ6_bitCount_0f7a4_23 : decode cJ6_bitCount_0f7a4 23 = .ok (.istore_n 0, 1) := by decide +kernel
theorem dJ6_bitCount_0f7a4_24 : decode cJ6_bitCount_0f7a4 24 = .ok (.iload_n 0, 1) := by decide +kernel
theorem dJ6_bitCount_0f7a4_25 : decode cJ6_bitCount_0f7a4 25 = .ok (.iload_n 0, 1) := by decide +kernel
theorem dJ6_bitCount_0f7a4_26 : decode cJ6_bitCount_0f7a4 26 = .ok (.iconst 4, 1) := by decide +kernel
theorem dJ6_bitCount_0f7a4_27 : decode cJ6_bitCount_0f7a4 27 = .ok (.iushr, 1) := by decide +kernel
theorem dJ6_bitCount_0f7a4_28 : decode cJ6_bitCount_0f7a4 28 = .ok (.iadd, 1) := by decide +kernel
theorem dJ6_bitCount_0f7a4_29 : decode cJ6_bitCount_0f7a4 29 = .ok (.ldc_w 267, 3) := by decide +kernel
theorem dJ6_bitCount_0f7a4_32 : decode cJ6_bitCount_0f7a4 32 = .ok (.iand, 1) := by decide +kernel
theorem dJ6_bitCount_0f7a4_33 : decode cJ6_bitCount_0f7a4 33 = .ok (.istore_n 0, 1) := by decide +kernel
theorem dJ6_bitCount_0f7a4_34 : decode cJ6_bitCount_0f7a4 34 = .ok (.iload_n 0, 1) := by decide +kernel
theorem dJ6_bitCount_0f7a4_35 : decode cJ6_bitCount_0f7a4 35 = .ok (.iload_n 0, 1) := by decide +kernel
theorem dJ6_bitCount_0f7a4_36 : decode cJ6_bitCount_0f7a4 36 = .ok (.bipush 8, 2) := by decide +kernel
theorem dJ6_bitCount_0f7a4_38 : decode cJ6_bitCount_0f7a4 38 = .ok (.iushr, 1) := by decide +kernel
theorem dJ6_bitCount_0f7a4_39 : decode cJ6_bitCount_0f7a4 39 = .ok (.iadd, 1) := by decide +kernel
theorem dJ6_bitCount_0f7a4_40 : decode cJ6_bitCount_0f7a4 40 = .ok (.istore_n 0, 1) := by decide +kernel
theorem dJ6_bitCount_0f7a4_41 : decode cJ6_bitCount_0f7a4 41 = .ok (.iload_n 0, 1) := by decide +kernel
theorem dJ6_bitCount_0f7a4_42 : decode cJ6_bitCount_0f7a4 42 = .ok (.iload_n 0, 1) := by decide +kernel
theorem dJ6_bitCount_0f7a4_43 : decode cJ6_bitCount_0f7a4 43 = .ok (.bipush 16, 2) := by decide +kernel
theorem dJ6_bitCount_0f7a4_45 : decode cJ6_bitCount_0f7a4 45 = .ok (.iushr, 1) := by decide +kernel
theorem dJ6_bitCount_0f7a4_46 : decode cJ6_bitCount_0f7a4 46 = .ok (.iadd, 1) := by decide +kernel
theorem dJ6_bitCount_0f7a4_47 : decode cJ6_bitCount_0f7a4 47 = .ok (.istore_n 0, 1) := by decide +kernel
theorem dJ6_bitCount_0f7a4_48 : decode cJ6_bitCount_0f7a4 48 = .ok (.iload_n 0, 1) := by decide +kernel
theorem dJ6_bitCount_0f7a4_49 : decode cJ6_bitCount_0f7a4 49 = .ok (.bipush 63, 2) := by decide +kernel
theorem dJ6_bitCount_0f7a4_51 : decode cJ6_bitCount_0f7a4 51 = .ok (.iand, 1) := by decide +kernel
theorem dJ6_bitCount_0f7a4_52 : decode cJ6_bitCount_0f7a4 52 = .ok (.ireturn, 1) := by decide +kernel
theorem dJ9_abs_067f4_0 : decode cJ9_abs_067f4 0 = .ok (.lload_n 0, 1) := by decide +kernel
theorem dJ9_abs_067f4_1 : decode cJ9_abs_067f4 1 = .ok (.lconst 0, 1) := by decide +kernel
theorem dJ9_abs_067f4_2 : decode cJ9_abs_067f4 2 = .ok (.lcmp, 1) := by decide +kernel
theorem dJ9_abs_067f4_3 : decode cJ9_abs_067f4 3 = .ok (.ifCond .ge 8, 3) := by decide +kernel
theorem dJ9_abs_067f4_6 : decode cJ9_abs_067f4 6 = .ok (.lload_n 0, 1) := by decide +kernel
theorem dJ9_abs_067f4_7 : decode cJ9_abs_067f4 7 = .ok (.lneg, 1) := by decide +kernel
theorem dJ9_abs_067f4_8 : decode cJ9_abs_067f4 8 = .ok (.goto 4, 3) := by decide +kernel
theorem dJ9_abs_067f4_11 : decode cJ9_abs_067f4 11 = .ok (.lload_n 0, 1) := by decide +kernel
theorem dJ9_abs_067f4_12 : decode cJ9_abs_067f4 12 = .ok (.lreturn, 1) := by decide +kernel
theorem dJ9_min_7cf53_0 : decode cJ9_min_7cf53 0 = .ok (.iload_n 0, 1) := by decide +kernel
theorem dJ9_min_7cf53_1 : decode cJ9_min_7cf53 1 = .ok (.iload_n 1, 1) := by decide +kernel
theorem dJ9_min_7cf53_2 : decode cJ9_min_7cf53 2 = .ok (.if_icmp .gt 7, 3) := by decide +kernel
theorem dJ9_min_7cf53_5 : decode cJ9_min_7cf53 5 = .ok (.iload_n 0, 1) := by decide +kernel
theorem dJ9_min_7cf53_6 : decode cJ9_min_7cf53 6 = .ok (.goto 4, 3) := by decide +kernel
theorem dJ9_min_7cf53_9 : decode cJ9_min_7cf53 9 = .ok (.iload_n 1, 1) := by decide +kernel
theorem dJ9_min_7cf53_10 : decode cJ9_min_7cf53 10 = .ok (.ireturn, 1) := by decide +kernel
theorem dJ0_length_8abf5_0 : decode cJ0_length_8abf5 0 = .ok (.aload_n 0, 1) := by decide +kernel
theorem dJ0_length_8abf5_1 : decode cJ0_length_8abf5 1 = .ok (.getfield 9, 3) := by decide +kernel
theorem dJ0_length_8abf5_4 : decode cJ0_length_8abf5 4 = .ok (.arraylength, 1) := by decide +kernel
theorem dJ0_length_8abf5_5 : decode cJ0_length_8abf5 5 = .ok (.aload_n 0, 1) := by decide +kernel
theorem dJ0_length_8abf5_6 : decode cJ0_length_8abf5 6 = .ok (.invokevirtual 335, 3) := by decide +kernel
theorem dJ0_length_8abf5_9 : decode cJ0_length_8abf5 9 = .ok (.ishr, 1) := by decide +kernel
theorem dJ0_length_8abf5_10 : decode cJ0_length_8abf5 10 = .ok (.ireturn, 1) := by decide +kernel
theorem dJ0_charAt_5068e_0 : decode cJ0_charAt_5068e 0 = .ok (.aload_n 0, 1) := by decide +kernel
theorem dJ0_charAt_5068e_1 : decode cJ0_charAt_5068e 1 = .ok (.invokevirtual 492, 3) := by decide +kernel
theorem dJ0_charAt_5068e_4 : decode cJ0_charAt_5068e 4 = .ok (.ifCond .eq 12, 3) := by decide +kernel
theorem dJ0_charAt_5068e_7 : decode cJ0_charAt_5068e 7 = .ok (.aload_n 0, 1) := by decide +kernel
theorem dJ0_charAt_5068e_8 : decode cJ0_charAt_5068e 8 = .ok (.getfield 9, 3) := by decide +kernel
theorem dJ0_charAt_5068e_11 : decode cJ0_charAt_5068e 11 = .ok (.iload_n 1, 1) := by decide +kernel
theorem dJ0_charAt_5068e_12 : decode cJ0_charAt_5068e 12 = .ok (.invokestatic 495, 3) := by decide +kernel
theorem dJ0_charAt_5068e_15 : decode cJ0_charAt_5068e 15 = .ok (.ireturn, 1) := by decide +kernel
theorem dJ0_charAt_5068e_16 : decode cJ0_charAt_5068e 16 = .ok (.aload_n 0, 1) := by decide +kernel
theorem dJ0_charAt_5068e_17 : decode cJ0_charAt_5068e 17 = .ok (.getfield 9, 3) := by decide +kernel
theorem dJ0_charAt_5068e_20 : decode cJ0_charAt_5068e 20 = .ok (.iload_n 1, 1) := by decide +kernel
theorem dJ0_charAt_5068e_21 : decode cJ0_charAt_5068e 21 = .ok (.invokestatic 498, 3) := by decide +kernel
theorem dJ0_charAt_5068e_24 : decode cJ0_charAt_5068e 24 = .ok (.ireturn, 1) := by decide +kernel
theorem dJ0_coder_7d493_0 : decode cJ0_coder_7d493 0 = .ok (.getstatic 38, 3) := by decide +kernel
theorem dJ0_coder_7d493_3 : decode cJ0_coder_7d493 3 = .ok (.ifCond .eq 10, 3) := by decide +kernel
theorem dJ0_coder_7d493_6 : decode cJ0_coder_7d493 6 = .ok (.aload_n 0, 1) := by decide +kernel
theorem dJ0_coder_7d493_7 : decode cJ0_coder_7d493 7 = .ok (.getfield 15, 3) := by decide +kernel
theorem dJ0_coder_7d493_10 : decode cJ0_coder_7d493 10 = .ok (.goto 4, 3) := by decide +kernel
theorem dJ0_coder_7d493_13 : decode cJ0_coder_7d493 13 = .ok (.iconst 1, 1) := by decide +kernel
theorem dJ0_coder_7d493_14 : decode cJ0_coder_7d493 14 = .ok (.ireturn, 1) := by decide +kernel
theorem dJ0_isLatin1_aae02_0 : decode cJ0_isLatin1_aae02 0 = .ok (.getstatic 38, 3) := by decide +kernel
theorem dJ0_isLatin1_aae02_3 : decode cJ0_isLatin1_aae02 3 = .ok (.ifCond .eq 14, 3) := by decide +kernel
theorem dJ0_isLatin1_aae02_6 : decode cJ0_isLatin1_aae02 6 = .ok (.aload_n 0, 1) := by decide +kernel
theorem dJ0_isLatin1_aae02_7 : decode cJ0_isLatin1_aae02 7 = .ok (.getfield 15, 3) := by decide +kernel
theorem dJ0_isLatin1_aae02_10 : decode cJ0_isLatin1_aae02 10 = .ok (.ifCond .ne 7, 3) := by decide +kernel
theorem dJ0_isLatin1_aae02_13 : decode cJ0_isLatin1_aae02 13 = .ok (.iconst 1, 1) := by decide +kernel
theorem dJ0_isLatin1_aae02_14 : decode cJ0_isLatin1_aae02 14 = .ok (.goto 4, 3) := by decide +kernel
theorem dJ0_isLatin1_aae02_17 : decode cJ0_isLatin1_aae02 17 = .ok (.iconst 0, 1) := by decide +kernel
theorem dJ0_isLatin1_aae02_18 : decode cJ0_isLatin1_aae02 18 = .ok (.ireturn, 1) := by decide +kernel
theorem dJ0_checkIndex_df160_0 : decode cJ0_checkIndex_df160 0 = .ok (.iload_n 0, 1) := by decide +kernel
theorem dJ0_checkIndex_df160_1 : decode cJ0_checkIndex_df160 1 = .ok (.iload_n 1, 1) := by decide +kernel
theorem dJ0_checkIndex_df160_2 : decode cJ0_checkIndex_df160 2 = .ok (.getstatic 1053, 3) := by decide +kernel
theorem dJ0_checkIndex_df160_5 : decode cJ0_checkIndex_df160 5 = .ok (.invokestatic 1059, 3) := by decide +kernel
theorem dJ0_checkIndex_df160_8 : decode cJ0_checkIndex_df160 8 = .ok (.pop, 1) := by decide +kernel
theorem dJ0_checkIndex_df160_9 : decode cJ0_checkIndex_df160 9 = .ok (.return_, 1) := by decide +kernel
theorem dJ1_charAt_3b067_0 : decode cJ1_charAt_3b067 0 = .ok (.iload_n 1, 1) := by decide +kernel
theorem dJ1_charAt_3b067_1 : decode cJ1_charAt_3b067 1 = .ok (.aload_n 0, 1) := by decide +kernel
theorem dJ1_charAt_3b067_2 : decode cJ1_charAt_3b067 2 = .ok (.arraylength, 1) := by decide +kernel
theorem dJ1_charAt_3b067_3 : decode cJ1_charAt_3b067 3 = .ok (.invokestatic 9, 3) := by decide +kernel
theorem dJ1_charAt_3b067_6 : decode cJ1_charAt_3b067 6 = .ok (.aload_n 0, 1) := by decide +kernel
theorem dJ1_charAt_3b067_7 : decode cJ1_charAt_3b067 7 = .ok (.iload_n 1, 1) := by decide +kernel
theorem dJ1_charAt_3b067_8 : decode cJ1_charAt_3b067 8 = .ok (.baload, 1) := by decide +kernel
theorem dJ1_charAt_3b067_9 : decode cJ1_charAt_3b067 9 = .ok (.sipush 255, 3) := by decide +kernel
theorem dJ1_charAt_3b067_12 : decode cJ1_charAt_3b067 12 = .ok (.iand, 1) := by decide +kernel
theorem dJ1_charAt_3b067_13 : decode cJ1_charAt_3b067 13 = .ok (.i2c, 1) := by decide +kernel
theorem dJ1_charAt_3b067_14 : decode cJ1_charAt_3b067 14 = .ok (.ireturn, 1) := by decide +kernel
theorem dJ2_getChar_3b067_0 : decode cJ2_getChar_3b067 0 = .ok (.getstatic 44, 3) := by decide +kernel
theorem dJ2_getChar_3b067_3 : decode cJ2_getChar_3b067 3 = .ok (.ifCond .ne 25, 3) := by decide +kernel
theorem dJ2_getChar_3b067_6 : decode cJ2_getChar_3b067 6 = .ok (.iload_n 1, 1) := by decide +kernel
theorem dJ2_getChar_3b067_7 : decode cJ2_getChar_3b067 7 = .ok (.ifCond .lt 11, 3) := by decide +kernel
theorem dJ2_getChar_3b067_10 : decode cJ2_getChar_3b067 10 = .ok (.iload_n 1, 1) := by decide +kernel
theorem dJ2_getChar_3b067_11 : decode cJ2_getChar_3b067 11 = .ok (.aload_n 0, 1) := by decide +kernel
theorem dJ2_getChar_3b067_12 : decode cJ2_getChar_3b067 12 = .ok (.invokestatic 48, 3) := by decide +kernel
theorem dJ2_getChar_3b067_15 : decode cJ2_getChar_3b067 15 = .ok (.if_icmp .lt 13, 3) := by decide +kernel
theorem dJ2_getChar_3b067_18 : decode cJ2_getChar_3b067 18 = .ok (.new 52, 3) := by decide +kernel
theorem dJ2_getChar_3b067_21 : decode cJ2_getChar_3b067 21 = .ok (.dup, 1) := by decide +kernel
theorem dJ2_getChar_3b067_22 : decode cJ2_getChar_3b067 22 = .ok (.ldc 54, 2) := by decide +kernel
theorem dJ2_getChar_3b067_24 : decode cJ2_getChar_3b067 24 = .ok (.invokespecial 56, 3) := by decide +kernel
theorem dJ2_getChar_3b067_27 : decode cJ2_getChar_3b067 27 = .ok (.athrow, 1) := by decide +kernel
theorem dJ2_getChar_3b067_28 : decode cJ2_getChar_3b067 28 = .ok (.iload_n 1, 1) := by decide +kernel
theorem dJ2_getChar_3b067_29 : decode cJ2_getChar_3b067 29 = .ok (.iconst 1, 1) := by decide +kernel
theorem dJ2_getChar_3b067_30 : decode cJ2_getChar_3b067 30 = .ok (.ishl, 1) := by decide +kernel
theorem dJ2_getChar_3b067_31 : decode cJ2_getChar_3b067 31 = .ok (.istore_n 1, 1) := by decide +kernel
theorem dJ2_getChar_3b067_32 : decode cJ2_getChar_3b067 32 = .ok (.aload_n 0, 1) := by decide +kernel
theorem dJ2_getChar_3b067_33 : decode cJ2_getChar_3b067 33 = .ok (.iload_n 1, 1) := by decide +kernel
theorem dJ2_getChar_3b067_34 : decode cJ2_getChar_3b067 34 = .ok (.iinc 1 1, 3) := by decide +kernel
theorem dJ2_getChar_3b067_37 : decode cJ2_getChar_3b067 37 = .ok (.baload, 1) := by decide +kernel
theorem dJ2_getChar_3b067_38 : decode cJ2_getChar_3b067 38 = .ok (.sipush 255, 3) := by decide +kernel
theorem dJ2_getChar_3b067_41 : decode cJ2_getChar_3b067 41 = .ok (.iand, 1) := by decide +kernel
theorem dJ2_getChar_3b067_42 : decode cJ2_getChar_3b067 42 = .ok (.getstatic 59, 3) := by decide +kernel
theorem dJ2_getChar_3b067_45 : decode cJ2_getChar_3b067 45 = .ok (.ishl, 1) := by decide +kernel
theorem dJ2_getChar_3b067_46 : decode cJ2_getChar_3b067 46 = .ok (.aload_n 0, 1) := by decide +kernel
theorem dJ2_getChar_3b067_47 : decode cJ2_getChar_3b067 47 = .ok (.iload_n 1, 1) := by decide +kernel
theorem dJ2_getChar_3b067_48 : decode cJ2_getChar_3b067 48 = .ok (.baload, 1) := by decide +kernel
theorem dJ2_getChar_3b067_49 : decode cJ2_getChar_3b067 49 = .ok (.sipush 255, 3) := by decide +kernel
theorem dJ2_getChar_3b067_52 : decode cJ2_getChar_3b067 52 = .ok (.iand, 1) := by decide +kernel
theorem dJ2_getChar_3b067_53 : decode cJ2_getChar_3b067 53 = .ok (.getstatic 63, 3) := by decide +kernel
theorem dJ2_getChar_3b067_56 : decode cJ2_getChar_3b067 56 = .ok (.ishl, 1) := by decide +kernel
theorem dJ2_getChar_3b067_57 : decode cJ2_getChar_3b067 57 = .ok (.ior, 1) := by decide +kernel
theorem dJ2_getChar_3b067_58 : decode cJ2_getChar_3b067 58 = .ok (.i2c, 1) := by decide +kernel
theorem dJ2_getChar_3b067_59 : decode cJ2_getChar_3b067 59 = .ok (.ireturn, 1) := by decide +kernel
theorem dJ2_length_9d52b_0 : decode cJ2_length_9d52b 0 = .ok (.aload_n 0, 1) := by decide +kernel
theorem dJ2_length_9d52b_1 : decode cJ2_length_9d52b 1 = .ok (.arraylength, 1) := by decide +kernel
theorem dJ2_length_9d52b_2 : decode cJ2_length_9d52b 2 = .ok (.iconst 1, 1) := by decide +kernel
theorem dJ2_length_9d52b_3 : decode cJ2_length_9d52b 3 = .ok (.ishr, 1) := by decide +kernel
theorem dJ2_length_9d52b_4 : decode cJ2_length_9d52b 4 = .ok (.ireturn, 1) := by decide +kernel
theorem dJ2_charAt_3b067_0 : decode cJ2_charAt_3b067 0 = .ok (.iload_n 1, 1) := by decide +kernel
theorem dJ2_charAt_3b067_1 : decode cJ2_charAt_3b067 1 = .ok (.aload_n 0, 1) := by decide +kernel
theorem dJ2_charAt_3b067_2 : decode cJ2_charAt_3b067 2 = .ok (.invokestatic 67, 3) := by decide +kernel
theorem dJ2_charAt_3b067_5 : decode cJ2_charAt_3b067 5 = .ok (.aload_n 0, 1) := by decide +kernel
theorem dJ2_charAt_3b067_6 : decode cJ2_charAt_3b067 6 = .ok (.iload_n 1, 1) := by decide +kernel
theorem dJ2_charAt_3b067_7 : decode cJ2_charAt_3b067 7 = .ok (.invokestatic 71, 3) := by decide +kernel
theorem dJ2_charAt_3b067_10 : decode cJ2_charAt_3b067 10 = .ok (.ireturn, 1) := by decide +kernel
theorem dJ2_checkIndex_2214a_0 : decode cJ2_checkIndex_2214a 0 = .ok (.iload_n 0, 1) := by decide +kernel
theorem dJ2_checkIndex_2214a_1 : decode cJ2_checkIndex_2214a 1 = .ok (.aload_n 1, 1) := by decide +kernel
theorem dJ2_checkIndex_2214a_2 : decode cJ2_checkIndex_2214a 2 = .ok (.invokestatic 48, 3) := by decide +kernel
theorem dJ2_checkIndex_2214a_5 : decode cJ2_checkIndex_2214a 5 = .ok (.invokestatic 414, 3) := by decide +kernel
theorem dJ2_checkIndex_2214a_8 : decode cJ2_checkIndex_2214a 8 = .ok (.return_, 1) := by decide +kernel
theorem dJ7_fill_53178_0 : decode cJ7_fill_53178 0 = .ok (.iconst 0, 1) := by decide +kernel
theorem dJ7_fill_53178_1 : decode cJ7_fill_53178 1 = .ok (.istore_n 2, 1) := by decide +kernel
theorem dJ7_fill_53178_2 : decode cJ7_fill_53178 2 = .ok (.aload_n 0, 1) := by decide +kernel
theorem dJ7_fill_53178_3 : decode cJ7_fill_53178 3 = .ok (.arraylength, 1) := by decide +kernel
theorem dJ7_fill_53178_4 : decode cJ7_fill_53178 4 = .ok (.istore_n 3, 1) := by decide +kernel
theorem dJ7_fill_53178_5 : decode cJ7_fill_53178 5 = .ok (.iload_n 2, 1) := by decide +kernel
theorem dJ7_fill_53178_6 : decode cJ7_fill_53178 6 = .ok (.iload_n 3, 1) := by decide +kernel
theorem dJ7_fill_53178_7 : decode cJ7_fill_53178 7 = .ok (.if_icmp .ge 13, 3) := by decide +kernel
theorem dJ7_fill_53178_10 : decode cJ7_fill_53178 10 = .ok (.aload_n 0, 1) := by decide +kernel
theorem dJ7_fill_53178_11 : decode cJ7_fill_53178 11 = .ok (.iload_n 2, 1) := by decide +kernel
theorem dJ7_fill_53178_12 : decode cJ7_fill_53178 12 = .ok (.iload_n 1, 1) := by decide +kernel
theorem dJ7_fill_53178_13 : decode cJ7_fill_53178 13 = .ok (.iastore, 1) := by decide +kernel
theorem dJ7_fill_53178_14 : decode cJ7_fill_53178 14 = .ok (.iinc 2 1, 3) := by decide +kernel
theorem dJ7_fill_53178_17 : decode cJ7_fill_53178 17 = .ok (.goto (-12), 3) := by decide +kernel
theorem dJ7_fill_53178_20 : decode cJ7_fill_53178 20 = .ok (.return_, 1) := by decide +kernel
theorem dJ3_checkIndex_8e157_0 : decode cJ3_checkIndex_8e157 0 = .ok (.iload_n 0, 1) := by decide +kernel
theorem dJ3_checkIndex_8e157_1 : decode cJ3_checkIndex_8e157 1 = .ok (.ifCond .lt 8, 3) := by decide +kernel
theorem dJ3_checkIndex_8e157_4 : decode cJ3_checkIndex_8e157 4 = .ok (.iload_n 0, 1) := by decide +kernel
theorem dJ3_checkIndex_8e157_5 : decode cJ3_checkIndex_8e157 5 = .ok (.iload_n 1, 1) := by decide +kernel
theorem dJ3_checkIndex_8e157_6 : decode cJ3_checkIndex_8e157 6 = .ok (.if_icmp .lt 10, 3) := by decide +kernel
theorem dJ3_checkIndex_8e157_9 : decode cJ3_checkIndex_8e157 9 = .ok (.aload_n 2, 1) := by decide +kernel
theorem dJ3_checkIndex_8e157_10 : decode cJ3_checkIndex_8e157 10 = .ok (.iload_n 0, 1) := by decide +kernel
theorem dJ3_checkIndex_8e157_11 : decode cJ3_checkIndex_8e157 11 = .ok (.iload_n 1, 1) := by decide +kernel
theorem dJ3_checkIndex_8e157_12 : decode cJ3_checkIndex_8e157 12 = .ok (.invokestatic 95, 3) := by decide +kernel
theorem dJ3_checkIndex_8e157_15 : decode cJ3_checkIndex_8e157 15 = .ok (.athrow, 1) := by decide +kernel
theorem dJ3_checkIndex_8e157_16 : decode cJ3_checkIndex_8e157 16 = .ok (.iload_n 0, 1) := by decide +kernel
theorem dJ3_checkIndex_8e157_17 : decode cJ3_checkIndex_8e157 17 = .ok (.ireturn, 1) := by decide +kernel
theorem dL_law_0 : decode cL_law 0 = .ok (.new 7, 3) := by decide +kernel
theorem dL_law_3 : decode cL_law 3 = .ok (.dup, 1) := by decide +kernel
theorem dL_law_4 : decode cL_law 4 = .ok (.invokespecial 9, 3) := by decide +kernel
theorem dL_law_7 : decode cL_law 7 = .ok (.astore_n 1, 1) := by decide +kernel
theorem dL_law_8 : decode cL_law 8 = .ok (.new 10, 3) := by decide +kernel
theorem dL_law_11 : decode cL_law 11 = .ok (.dup, 1) := by decide +kernel
theorem dL_law_12 : decode cL_law 12 = .ok (.invokespecial 12, 3) := by decide +kernel
theorem dL_law_15 : decode cL_law 15 = .ok (.astore_n 2, 1) := by decide +kernel
theorem dL_law_16 : decode cL_law 16 = .ok (.iconst 0, 1) := by decide +kernel
theorem dL_law_17 : decode cL_law 17 = .ok (.istore_n 3, 1) := by decide +kernel
theorem dL_law_18 : decode cL_law 18 = .ok (.iload_n 3, 1) := by decide +kernel
theorem dL_law_19 : decode cL_law 19 = .ok (.aload_n 0, 1) := by decide +kernel
theorem dL_law_20 : decode cL_law 20 = .ok (.arraylength, 1) := by decide +kernel
theorem dL_law_21 : decode cL_law 21 = .ok (.iconst 5, 1) := by decide +kernel
theorem dL_law_22 : decode cL_law 22 = .ok (.isub, 1) := by decide +kernel
theorem dL_law_23 : decode cL_law 23 = .ok (.if_icmp .gt 922, 3) := by decide +kernel
theorem dL_law_26 : decode cL_law 26 = .ok (.aload_n 0, 1) := by decide +kernel
theorem dL_law_27 : decode cL_law 27 = .ok (.iload_n 3, 1) := by decide +kernel
theorem dL_law_28 : decode cL_law 28 = .ok (.iaload, 1) := by decide +kernel
theorem dL_law_29 : decode cL_law 29 = .ok (.bipush 31, 2) := by decide +kernel
theorem dL_law_31 : decode cL_law 31 = .ok (.iand, 1) := by decide +kernel
theorem dL_law_32 : decode cL_law 32 = .ok (.tableswitch 907 0 26 #[124, 147, 180, 223, 276, 339, 352, 365, 378, 391, 424, 457, 510, 533, 556, 589, 632, 645, 678, 711, 744, 777, 801, 824, 847, 870, 893], 124) := by decide +kernel
theorem dL_law_156 : decode cL_law 156 = .ok (.aload_n 1, 1) := by decide +kernel
theorem dL_law_157 : decode cL_law 157 = .ok (.aload_n 0, 1) := by decide +kernel
theorem dL_law_158 : decode cL_law 158 = .ok (.iload_n 3, 1) := by decide +kernel
theorem dL_law_159 : decode cL_law 159 = .ok (.iconst 1, 1) := by decide +kernel
theorem dL_law_160 : decode cL_law 160 = .ok (.iadd, 1) := by decide +kernel
theorem dL_law_161 : decode cL_law 161 = .ok (.iaload, 1) := by decide +kernel
theorem dL_law_162 : decode cL_law 162 = .ok (.invokevirtual 13, 3) := by decide +kernel
theorem dL_law_165 : decode cL_law 165 = .ok (.aload_n 2, 1) := by decide +kernel
theorem dL_law_166 : decode cL_law 166 = .ok (.aload_n 0, 1) := by decide +kernel
theorem dL_law_167 : decode cL_law 167 = .ok (.iload_n 3, 1) := by decide +kernel
theorem dL_law_168 : decode cL_law 168 = .ok (.iconst 1, 1) := by decide +kernel
theorem dL_law_169 : decode cL_law 169 = .ok (.iadd, 1) := by decide +kernel
theorem dL_law_170 : decode cL_law 170 = .ok (.iaload, 1) := by decide +kernel
theorem dL_law_171 : decode cL_law 171 = .ok (.invokevirtual 17, 3) := by decide +kernel
theorem dL_law_174 : decode cL_law 174 = .ok (.if_icmp .eq 765, 3) := by decide +kernel
theorem dL_law_177 : decode cL_law 177 = .ok (.iconst 0, 1) := by decide +kernel
theorem dL_law_178 : decode cL_law 178 = .ok (.ireturn, 1) := by decide +kernel
theorem dL_law_179 : decode cL_law 179 = .ok (.aload_n 1, 1) := by decide +kernel
theorem dL_law_180 : decode cL_law 180 = .ok (.aload_n 0, 1) := by decide +kernel
theorem dL_law_181 : decode cL_law 181 = .ok (.iload_n 3, 1) := by decide +kernel
theorem dL_law_182 : decode cL_law 182 = .ok (.iconst 1, 1) := by decide +kernel
theorem dL_law_183 : decode cL_law 183 = .ok (.iadd, 1) := by decide +kernel
theorem dL_law_184 : decode cL_law 184 = .ok (.iaload, 1) := by decide +kernel
theorem dL_law_185 : decode cL_law 185 = .ok (.aload_n 0, 1) := by decide +kernel
theorem dL_law_186 : decode cL_law 186 = .ok (.iload_n 3, 1) := by decide +kernel
theorem dL_law_187 : decode cL_law 187 = .ok (.iconst 2, 1) := by decide +kernel
theorem dL_law_188 : decode cL_law 188 = .ok (.iadd, 1) := by decide +kernel
theorem dL_law_189 : decode cL_law 189 = .ok (.iaload, 1) := by decide +kernel
theorem dL_law_190 : decode cL_law 190 = .ok (.invokevirtual 18, 3) := by decide +kernel
theorem dL_law_193 : decode cL_law 193 = .ok (.aload_n 2, 1) := by decide +kernel
theorem dL_law_194 : decode cL_law 194 = .ok (.aload_n 0, 1) := by decide +kernel
theorem dL_law_195 : decode cL_law 195 = .ok (.iload_n 3, 1) := by decide +kernel
theorem dL_law_196 : decode cL_law 196 = .ok (.iconst 1, 1) := by decide +kernel
theorem dL_law_197 : decode cL_law 197 = .ok (.iadd, 1) := by decide +kernel
theorem dL_law_198 : decode cL_law 198 = .ok (.iaload, 1) := by decide +kernel
theorem dL_law_199 : decode cL_law 199 = .ok (.aload_n 0, 1) := by decide +kernel
theorem dL_law_200 : decode cL_law 200 = .ok (.iload_n 3, 1) := by decide +kernel
theorem dL_law_201 : decode cL_law 201 = .ok (.iconst 2, 1) := by decide +kernel
theorem dL_law_202 : decode cL_law 202 = .ok (.iadd, 1) := by decide +kernel
theorem dL_law_203 : decode cL_law 203 = .ok (.iaload, 1) := by decide +kernel
theorem dL_law_204 : decode cL_law 204 = .ok (.invokevirtual 22, 3) := by decide +kernel
theorem dL_law_207 : decode cL_law 207 = .ok (.if_icmp .eq 732, 3) := by decide +kernel
theorem dL_law_210 : decode cL_law 210 = .ok (.iconst 0, 1) := by decide +kernel
theorem dL_law_211 : decode cL_law 211 = .ok (.ireturn, 1) := by decide +kernel
theorem dL_law_212 : decode cL_law 212 = .ok (.aload_n 1, 1) := by decide +kernel
theorem dL_law_213 : decode cL_law 213 = .ok (.aload_n 0, 1) := by decide +kernel
theorem dL_law_214 : decode cL_law 214 = .ok (.iload_n 3, 1) := by decide +kernel
theorem dL_law_215 : decode cL_law 215 = .ok (.iconst 1, 1) := by decide +kernel
theorem dL_law_216 : decode cL_law 216 = .ok (.iadd, 1) := by decide +kernel
theorem dL_law_217 : decode cL_law 217 = .ok (.iaload, 1) := by decide +kernel
theorem dL_law_218 : decode cL_law 218 = .ok (.aload_n 0, 1) := by decide +kernel
theorem dL_law_219 : decode cL_law 219 = .ok (.iload_n 3, 1) := by decide +kernel
theorem dL_law_220 : decode cL_law 220 = .ok (.iconst 2, 1) := by decide +kernel
theorem dL_law_221 : decode cL_law 221 = .ok (.iadd, 1) := by decide +kernel
theorem dL_law_222 : decode cL_law 222 = .ok (.iaload, 1) := by decide +kernel
theorem dL_law_223 : decode cL_law 223 = .ok (.aload_n 0, 1) := by decide +kernel
theorem dL_law_224 : decode cL_law 224 = .ok (.iload_n 3, 1) := by decide +kernel
theorem dL_law_225 : decode cL_law 225 = .ok (.iconst 3, 1) := by decide +kernel
theorem dL_law_226 : decode cL_law 226 = .ok (.iadd, 1) := by decide +kernel
theorem dL_law_227 : decode cL_law 227 = .ok (.iaload, 1) := by decide +kernel
theorem dL_law_228 : decode cL_law 228 = .ok (.invokevirtual 23, 3) := by decide +kernel
theorem dL_law_231 : decode cL_law 231 = .ok (.aload_n 2, 1) := by decide +kernel
theorem dL_law_232 : decode cL_law 232 = .ok (.aload_n 0, 1) := by decide +kernel
theorem dL_law_233 : decode cL_law 233 = .ok (.iload_n 3, 1) := by decide +kernel
theorem dL_law_234 : decode cL_law 234 = .ok (.iconst 1, 1) := by decide +kernel
theorem dL_law_235 : decode cL_law 235 = .ok (.iadd, 1) := by decide +kernel
theorem dL_law_236 : decode cL_law 236 = .ok (.iaload, 1) := by decide +kernel
theorem dL_law_237 : decode cL_law 237 = .ok (.aload_n 0, 1) := by decide +kernel
theorem dL_law_238 : decode cL_law 238 = .ok (.iload_n 3, 1) := by decide +kernel
theorem dL_law_239 : decode cL_law 239 = .ok (.iconst 2, 1) := by decide +kernel
theorem dL_law_240 : decode cL_law 240 = .ok (.iadd, 1) := by decide +kernel
theorem dL_law_241 : decode cL_law 241 = .ok (.iaload, 1) := by decide +kernel
theorem dL_law_242 : decode cL_law 242 = .ok (.aload_n 0, 1) := by decide +kernel
theorem dL_law_243 : decode cL_law 243 = .ok (.iload_n 3, 1) := by decide +kernel
theorem dL_law_244 : decode cL_law 244 = .ok (.iconst 3, 1) := by decide +kernel
theorem dL_law_245 : decode cL_law 245 = .ok (.iadd, 1) := by decide +kernel
theorem dL_law_246 : decode cL_law 246 = .ok (.iaload, 1) := by decide +kernel
theorem dL_law_247 : decode cL_law 247 = .ok (.invokevirtual 27, 3) := by decide +kernel
theorem dL_law_250 : decode cL_law 250 = .ok (.if_icmp .eq 689, 3) := by decide +kernel
theorem dL_law_253 : decode cL_law 253 = .ok (.iconst 0, 1) := by decide +kernel
theorem dL_law_254 : decode cL_law 254 = .ok (.ireturn, 1) := by decide +kernel
theorem dL_law_255 : decode cL_law 255 = .ok (.aload_n 1, 1) := by decide +kernel
theorem dL_law_256 : decode cL_law 256 = .ok (.aload_n 0, 1) := by decide +kernel
theorem dL_law_257 : decode cL_law 257 = .ok (.iload_n 3, 1) := by decide +kernel
theorem dL_law_258 : decode cL_law 258 = .ok (.iconst 1, 1) := by decide +kernel
theorem dL_law_259 : decode cL_law 259 = .ok (.iadd, 1) := by decide +kernel
theorem dL_law_260 : decode cL_law 260 = .ok (.iaload, 1) := by decide +kernel
theorem dL_law_261 : decode cL_law 261 = .ok (.aload_n 0, 1) := by decide +kernel
theorem dL_law_262 : decode cL_law 262 = .ok (.iload_n 3, 1) := by decide +kernel
theorem dL_law_263 : decode cL_law 263 = .ok (.iconst 2, 1) := by decide +kernel
theorem dL_law_264 : decode cL_law 264 = .ok (.iadd, 1) := by decide +kernel
theorem dL_law_265 : decode cL_law 265 = .ok (.iaload, 1) := by decide +kernel
theorem dL_law_266 : decode cL_law 266 = .ok (.aload_n 0, 1) := by decide +kernel
theorem dL_law_267 : decode cL_law 267 = .ok (.iload_n 3, 1) := by decide +kernel
theorem dL_law_268 : decode cL_law 268 = .ok (.iconst 3, 1) := by decide +kernel
theorem dL_law_269 : decode cL_law 269 = .ok (.iadd, 1) := by decide +kernel
theorem dL_law_270 : decode cL_law 270 = .ok (.iaload, 1) := by decide +kernel
theorem dL_law_271 : decode cL_law 271 = .ok (.aload_n 0, 1) := by decide +kernel
theorem dL_law_272 : decode cL_law 272 = .ok (.iload_n 3, 1) := by decide +kernel
theorem dL_law_273 : decode cL_law 273 = .ok (.iconst 4, 1) := by decide +kernel
theorem dL_law_274 : decode cL_law 274 = .ok (.iadd, 1) := by decide +kernel
theorem dL_law_275 : decode cL_law 275 = .ok (.iaload, 1) := by decide +kernel
theorem dL_law_276 : decode cL_law 276 = .ok (.invokevirtual 28, 3) := by decide +kernel
theorem dL_law_279 : decode cL_law 279 = .ok (.aload_n 2, 1) := by decide +kernel
theorem dL_law_280 : decode cL_law 280 = .ok (.aload_n 0, 1) := by decide +kernel
theorem dL_law_281 : decode cL_law 281 = .ok (.iload_n 3, 1) := by decide +kernel
theorem dL_law_282 : decode cL_law 282 = .ok (.iconst 1, 1) := by decide +kernel
theorem dL_law_283 : decode cL_law 283 = .ok (.iadd, 1) := by decide +kernel
theorem dL_law_284 : decode cL_law 284 = .ok (.iaload, 1) := by decide +kernel
theorem dL_law_285 : decode cL_law 285 = .ok (.aload_n 0, 1) := by decide +kernel
theorem dL_law_286 : decode cL_law 286 = .ok (.iload_n 3, 1) := by decide +kernel
theorem dL_law_287 : decode cL_law 287 = .ok (.iconst 2, 1) := by decide +kernel
theorem dL_law_288 : decode cL_law 288 = .ok (.iadd, 1) := by decide +kernel
theorem dL_law_289 : decode cL_law 289 = .ok (.iaload, 1) := by decide +kernel
theorem dL_law_290 : decode cL_law 290 = .ok (.aload_n 0, 1) := by decide +kernel
theorem dL_law_291 : decode cL_law 291 = .ok (.iload_n 3, 1) := by decide +kernel
theorem dL_law_292 : decode cL_law 292 = .ok (.iconst 3, 1) := by decide +kernel
theorem dL_law_293 : decode cL_law 293 = .ok (.iadd, 1) := by decide +kernel
theorem dL_law_294 : decode cL_law 294 = .ok (.iaload, 1) := by decide +kernel
theorem dL_law_295 : decode cL_law 295 = .ok (.aload_n 0, 1) := by decide +kernel
theorem dL_law_296 : decode cL_law 296 = .ok (.iload_n 3, 1) := by decide +kernel
theorem dL_law_297 : decode cL_law 297 = .ok (.iconst 4, 1) := by decide +kernel
theorem dL_law_298 : decode cL_law 298 = .ok (.iadd, 1) := by decide +kernel
theorem dL_law_299 : decode cL_law 299 = .ok (.iaload, 1) := by decide +kernel
theorem dL_law_300 : decode cL_law 300 = .ok (.invokevirtual 32, 3) := by decide +kernel
theorem dL_law_303 : decode cL_law 303 = .ok (.if_icmp .eq 636, 3) := by decide +kernel
theorem dL_law_306 : decode cL_law 306 = .ok (.iconst 0, 1) := by decide +kernel
theorem dL_law_307 : decode cL_law 307 = .ok (.ireturn, 1) := by decide +kernel
theorem dL_law_308 : decode cL_law 308 = .ok (.aload_n 1, 1) := by decide +kernel
theorem dL_law_309 : decode cL_law 309 = .ok (.aload_n 0, 1) := by decide +kernel
theorem dL_law_310 : decode cL_law 310 = .ok (.iload_n 3, 1) := by decide +kernel
theorem dL_law_311 : decode cL_law 311 = .ok (.iconst 1, 1) := by decide +kernel
theorem dL_law_312 : decode cL_law 312 = .ok (.iadd, 1) := by decide +kernel
theorem dL_law_313 : decode cL_law 313 = .ok (.iaload, 1) := by decide +kernel
theorem dL_law_314 : decode cL_law 314 = .ok (.i2l, 1) := by decide +kernel
theorem dL_law_315 : decode cL_law 315 = .ok (.bipush 32, 2) := by decide +kernel
theorem dL_law_317 : decode cL_law 317 = .ok (.lshl, 1) := by decide +kernel
theorem dL_law_318 : decode cL_law 318 = .ok (.aload_n 0, 1) := by decide +kernel
theorem dL_law_319 : decode cL_law 319 = .ok (.iload_n 3, 1) := by decide +kernel
theorem dL_law_320 : decode cL_law 320 = .ok (.iconst 2, 1) := by decide +kernel
theorem dL_law_321 : decode cL_law 321 = .ok (.iadd, 1) := by decide +kernel
theorem dL_law_322 : decode cL_law 322 = .ok (.iaload, 1) := by decide +kernel
theorem dL_law_323 : decode cL_law 323 = .ok (.i2l, 1) := by decide +kernel
theorem dL_law_324 : decode cL_law 324 = .ok (.ldc2_w 33, 3) := by decide +kernel
theorem dL_law_327 : decode cL_law 327 = .ok (.land, 1) := by decide +kernel
theorem dL_law_328 : decode cL_law 328 = .ok (.lor, 1) := by decide +kernel
theorem dL_law_329 : decode cL_law 329 = .ok (.aload_n 0, 1) := by decide +kernel
theorem dL_law_330 : decode cL_law 330 = .ok (.iload_n 3, 1) := by decide +kernel
theorem dL_law_331 : decode cL_law 331 = .ok (.iconst 3, 1) := by decide +kernel
theorem dL_law_332 : decode cL_law 332 = .ok (.iadd, 1) := by decide +kernel
theorem dL_law_333 : decode cL_law 333 = .ok (.iaload, 1) := by decide +kernel
theorem dL_law_334 : decode cL_law 334 = .ok (.invokevirtual 35, 3) := by decide +kernel
theorem dL_law_337 : decode cL_law 337 = .ok (.aload_n 2, 1) := by decide +kernel
theorem dL_law_338 : decode cL_law 338 = .ok (.aload_n 0, 1) := by decide +kernel
theorem dL_law_339 : decode cL_law 339 = .ok (.iload_n 3, 1) := by decide +kernel
theorem dL_law_340 : decode cL_law 340 = .ok (.iconst 1, 1) := by decide +kernel
theorem dL_law_341 : decode cL_law 341 = .ok (.iadd, 1) := by decide +kernel
theorem dL_law_342 : decode cL_law 342 = .ok (.iaload, 1) := by decide +kernel
theorem dL_law_343 : decode cL_law 343 = .ok (.i2l, 1) := by decide +kernel
theorem dL_law_344 : decode cL_law 344 = .ok (.bipush 32, 2) := by decide +kernel
theorem dL_law_346 : decode cL_law 346 = .ok (.lshl, 1) := by decide +kernel
theorem dL_law_347 : decode cL_law 347 = .ok (.aload_n 0, 1) := by decide +kernel
theorem dL_law_348 : decode cL_law 348 = .ok (.iload_n 3, 1) := by decide +kernel
theorem dL_law_349 : decode cL_law 349 = .ok (.iconst 2, 1) := by decide +kernel
theorem dL_law_350 : decode cL_law 350 = .ok (.iadd, 1) := by decide +kernel
theorem dL_law_351 : decode cL_law 351 = .ok (.iaload, 1) := by decide +kernel
theorem dL_law_352 : decode cL_law 352 = .ok (.i2l, 1) := by decide +kernel
theorem dL_law_353 : decode cL_law 353 = .ok (.ldc2_w 33, 3) := by decide +kernel
theorem dL_law_356 : decode cL_law 356 = .ok (.land, 1) := by decide +kernel
theorem dL_law_357 : decode cL_law 357 = .ok (.lor, 1) := by decide +kernel
theorem dL_law_358 : decode cL_law 358 = .ok (.aload_n 0, 1) := by decide +kernel
theorem dL_law_359 : decode cL_law 359 = .ok (.iload_n 3, 1) := by decide +kernel
theorem dL_law_360 : decode cL_law 360 = .ok (.iconst 3, 1) := by decide +kernel
theorem dL_law_361 : decode cL_law 361 = .ok (.iadd, 1) := by decide +kernel
theorem dL_law_362 : decode cL_law 362 = .ok (.iaload, 1) := by decide +kernel
theorem dL_law_363 : decode cL_law 363 = .ok (.invokevirtual 39, 3) := by decide +kernel
theorem dL_law_366 : decode cL_law 366 = .ok (.if_icmp .eq 573, 3) := by decide +kernel
theorem dL_law_369 : decode cL_law 369 = .ok (.iconst 0, 1) := by decide +kernel
theorem dL_law_370 : decode cL_law 370 = .ok (.ireturn, 1) := by decide +kernel
theorem dL_law_371 : decode cL_law 371 = .ok (.aload_n 1, 1) := by decide +kernel
theorem dL_law_372 : decode cL_law 372 = .ok (.invokevirtual 40, 3) := by decide +kernel
theorem dL_law_375 : decode cL_law 375 = .ok (.aload_n 2, 1) := by decide +kernel
theorem dL_law_376 : decode cL_law 376 = .ok (.invokevirtual 44, 3) := by decide +kernel
theorem dL_law_379 : decode cL_law 379 = .ok (.if_icmp .eq 560, 3) := by decide +kernel
theorem dL_law_382 : decode cL_law 382 = .ok (.iconst 0, 1) := by decide +kernel
theorem dL_law_383 : decode cL_law 383 = .ok (.ireturn, 1) := by decide +kernel
theorem dL_law_384 : decode cL_law 384 = .ok (.aload_n 1, 1) := by decide +kernel
theorem dL_law_385 : decode cL_law 385 = .ok (.invokevirtual 45, 3) := by decide +kernel
theorem dL_law_388 : decode cL_law 388 = .ok (.aload_n 2, 1) := by decide +kernel
theorem dL_law_389 : decode cL_law 389 = .ok (.invokevirtual 48, 3) := by decide +kernel
theorem dL_law_392 : decode cL_law 392 = .ok (.if_icmp .eq 547, 3) := by decide +kernel
theorem dL_law_395 : decode cL_law 395 = .ok (.iconst 0, 1) := by decide +kernel
theorem dL_law_396 : decode cL_law 396 = .ok (.ireturn, 1) := by decide +kernel
theorem dL_law_397 : decode cL_law 397 = .ok (.aload_n 1, 1) := by decide +kernel
theorem dL_law_398 : decode cL_law 398 = .ok (.invokevirtual 49, 3) := by decide +kernel
theorem dL_law_401 : decode cL_law 401 = .ok (.aload_n 2, 1) := by decide +kernel
theorem dL_law_402 : decode cL_law 402 = .ok (.invokevirtual 52, 3) := by decide +kernel
theorem dL_law_405 : decode cL_law 405 = .ok (.if_icmp .eq 534, 3) := by decide +kernel
theorem dL_law_408 : decode cL_law 408 = .ok (.iconst 0, 1) := by decide +kernel
theorem dL_law_409 : decode cL_law 409 = .ok (.ireturn, 1) := by decide +kernel
theorem dL_law_410 : decode cL_law 410 = .ok (.aload_n 1, 1) := by decide +kernel
theorem dL_law_411 : decode cL_law 411 = .ok (.invokevirtual 53, 3) := by decide +kernel
theorem dL_law_414 : decode cL_law 414 = .ok (.aload_n 2, 1) := by decide +kernel
theorem dL_law_415 : decode cL_law 415 = .ok (.invokevirtual 56, 3) := by decide +kernel
theorem dL_law_418 : decode cL_law 418 = .ok (.if_icmp .eq 521, 3) := by decide +kernel
theorem dL_law_421 : decode cL_law 421 = .ok (.iconst 0, 1) := by decide +kernel
theorem dL_law_422 : decode cL_law 422 = .ok (.ireturn, 1) := by decide +kernel
theorem dL_law_423 : decode cL_law 423 = .ok (.aload_n 1, 1) := by decide +kernel
theorem dL_law_424 : decode cL_law 424 = .ok (.aload_n 0, 1) := by decide +kernel
theorem dL_law_425 : decode cL_law 425 = .ok (.iload_n 3, 1) := by decide +kernel
theorem dL_law_426 : decode cL_law 426 = .ok (.iconst 1, 1) := by decide +kernel
theorem dL_law_427 : decode cL_law 427 = .ok (.iadd, 1) := by decide +kernel
theorem dL_law_428 : decode cL_law 428 = .ok (.iaload, 1) := by decide +kernel
theorem dL_law_429 : decode cL_law 429 = .ok (.aload_n 0, 1) := by decide +kernel
theorem dL_law_430 : decode cL_law 430 = .ok (.iload_n 3, 1) := by decide +kernel
theorem dL_law_431 : decode cL_law 431 = .ok (.iconst 2, 1) := by decide +kernel
theorem dL_law_432 : decode cL_law 432 = .ok (.iadd, 1) := by decide +kernel
theorem dL_law_433 : decode cL_law 433 = .ok (.iaload, 1) := by decide +kernel
theorem dL_law_434 : decode cL_law 434 = .ok (.invokevirtual 57, 3) := by decide +kernel
theorem dL_law_437 : decode cL_law 437 = .ok (.aload_n 2, 1) := by decide +kernel
theorem dL_law_438 : decode cL_law 438 = .ok (.aload_n 0, 1) := by decide +kernel
theorem dL_law_439 : decode cL_law 439 = .ok (.iload_n 3, 1) := by decide +kernel
theorem dL_law_440 : decode cL_law 440 = .ok (.iconst 1, 1) := by decide +kernel
theorem dL_law_441 : decode cL_law 441 = .ok (.iadd, 1) := by decide +kernel
theorem dL_law_442 : decode cL_law 442 = .ok (.iaload, 1) := by decide +kernel
theorem dL_law_443 : decode cL_law 443 = .ok (.aload_n 0, 1) := by decide +kernel
theorem dL_law_444 : decode cL_law 444 = .ok (.iload_n 3, 1) := by decide +kernel
theorem dL_law_445 : decode cL_law 445 = .ok (.iconst 2, 1) := by decide +kernel
theorem dL_law_446 : decode cL_law 446 = .ok (.iadd, 1) := by decide +kernel
theorem dL_law_447 : decode cL_law 447 = .ok (.iaload, 1) := by decide +kernel
theorem dL_law_448 : decode cL_law 448 = .ok (.invokevirtual 60, 3) := by decide +kernel
theorem dL_law_451 : decode cL_law 451 = .ok (.if_icmp .eq 488, 3) := by decide +kernel
theorem dL_law_454 : decode cL_law 454 = .ok (.iconst 0, 1) := by decide +kernel
theorem dL_law_455 : decode cL_law 455 = .ok (.ireturn, 1) := by decide +kernel
theorem dL_law_456 : decode cL_law 456 = .ok (.aload_n 1, 1) := by decide +kernel
theorem dL_law_457 : decode cL_law 457 = .ok (.aload_n 0, 1) := by decide +kernel
theorem dL_law_458 : decode cL_law 458 = .ok (.iload_n 3, 1) := by decide +kernel
theorem dL_law_459 : decode cL_law 459 = .ok (.iconst 1, 1) := by decide +kernel
theorem dL_law_460 : decode cL_law 460 = .ok (.iadd, 1) := by decide +kernel
theorem dL_law_461 : decode cL_law 461 = .ok (.iaload, 1) := by decide +kernel
theorem dL_law_462 : decode cL_law 462 = .ok (.aload_n 0, 1) := by decide +kernel
theorem dL_law_463 : decode cL_law 463 = .ok (.iload_n 3, 1) := by decide +kernel
theorem dL_law_464 : decode cL_law 464 = .ok (.iconst 2, 1) := by decide +kernel
theorem dL_law_465 : decode cL_law 465 = .ok (.iadd, 1) := by decide +kernel
theorem dL_law_466 : decode cL_law 466 = .ok (.iaload, 1) := by decide +kernel
theorem dL_law_467 : decode cL_law 467 = .ok (.invokevirtual 61, 3) := by decide +kernel
theorem dL_law_470 : decode cL_law 470 = .ok (.aload_n 2, 1) := by decide +kernel
theorem dL_law_471 : decode cL_law 471 = .ok (.aload_n 0, 1) := by decide +kernel
theorem dL_law_472 : decode cL_law 472 = .ok (.iload_n 3, 1) := by decide +kernel
theorem dL_law_473 : decode cL_law 473 = .ok (.iconst 1, 1) := by decide +kernel
theorem dL_law_474 : decode cL_law 474 = .ok (.iadd, 1) := by decide +kernel
theorem dL_law_475 : decode cL_law 475 = .ok (.iaload, 1) := by decide +kernel
theorem dL_law_476 : decode cL_law 476 = .ok (.aload_n 0, 1) := by decide +kernel
theorem dL_law_477 : decode cL_law 477 = .ok (.iload_n 3, 1) := by decide +kernel
theorem dL_law_478 : decode cL_law 478 = .ok (.iconst 2, 1) := by decide +kernel
theorem dL_law_479 : decode cL_law 479 = .ok (.iadd, 1) := by decide +kernel
theorem dL_law_480 : decode cL_law 480 = .ok (.iaload, 1) := by decide +kernel
theorem dL_law_481 : decode cL_law 481 = .ok (.invokevirtual 64, 3) := by decide +kernel
theorem dL_law_484 : decode cL_law 484 = .ok (.if_icmp .eq 455, 3) := by decide +kernel
theorem dL_law_487 : decode cL_law 487 = .ok (.iconst 0, 1) := by decide +kernel
theorem dL_law_488 : decode cL_law 488 = .ok (.ireturn, 1) := by decide +kernel
theorem dL_law_489 : decode cL_law 489 = .ok (.aload_n 1, 1) := by decide +kernel
theorem dL_law_490 : decode cL_law 490 = .ok (.aload_n 0, 1) := by decide +kernel
theorem dL_law_491 : decode cL_law 491 = .ok (.iload_n 3, 1) := by decide +kernel
theorem dL_law_492 : decode cL_law 492 = .ok (.iconst 1, 1) := by decide +kernel
theorem dL_law_493 : decode cL_law 493 = .ok (.iadd, 1) := by decide +kernel
theorem dL_law_494 : decode cL_law 494 = .ok (.iaload, 1) := by decide +kernel
theorem dL_law_495 : decode cL_law 495 = .ok (.aload_n 0, 1) := by decide +kernel
theorem dL_law_496 : decode cL_law 496 = .ok (.iload_n 3, 1) := by decide +kernel
theorem dL_law_497 : decode cL_law 497 = .ok (.iconst 2, 1) := by decide +kernel
theorem dL_law_498 : decode cL_law 498 = .ok (.iadd, 1) := by decide +kernel
theorem dL_law_499 : decode cL_law 499 = .ok (.iaload, 1) := by decide +kernel
theorem dL_law_500 : decode cL_law 500 = .ok (.aload_n 0, 1) := by decide +kernel
theorem dL_law_501 : decode cL_law 501 = .ok (.iload_n 3, 1) := by decide +kernel
theorem dL_law_502 : decode cL_law 502 = .ok (.iconst 3, 1) := by decide +kernel
theorem dL_law_503 : decode cL_law 503 = .ok (.iadd, 1) := by decide +kernel
theorem dL_law_504 : decode cL_law 504 = .ok (.iaload, 1) := by decide +kernel
theorem dL_law_505 : decode cL_law 505 = .ok (.aload_n 0, 1) := by decide +kernel
theorem dL_law_506 : decode cL_law 506 = .ok (.iload_n 3, 1) := by decide +kernel
theorem dL_law_507 : decode cL_law 507 = .ok (.iconst 4, 1) := by decide +kernel
theorem dL_law_508 : decode cL_law 508 = .ok (.iadd, 1) := by decide +kernel
theorem dL_law_509 : decode cL_law 509 = .ok (.iaload, 1) := by decide +kernel
theorem dL_law_510 : decode cL_law 510 = .ok (.invokevirtual 65, 3) := by decide +kernel
theorem dL_law_513 : decode cL_law 513 = .ok (.aload_n 2, 1) := by decide +kernel
theorem dL_law_514 : decode cL_law 514 = .ok (.aload_n 0, 1) := by decide +kernel
theorem dL_law_515 : decode cL_law 515 = .ok (.iload_n 3, 1) := by decide +kernel
theorem dL_law_516 : decode cL_law 516 = .ok (.iconst 1, 1) := by decide +kernel
theorem dL_law_517 : decode cL_law 517 = .ok (.iadd, 1) := by decide +kernel
theorem dL_law_518 : decode cL_law 518 = .ok (.iaload, 1) := by decide +kernel
theorem dL_law_519 : decode cL_law 519 = .ok (.aload_n 0, 1) := by decide +kernel
theorem dL_law_520 : decode cL_law 520 = .ok (.iload_n 3, 1) := by decide +kernel
theorem dL_law_521 : decode cL_law 521 = .ok (.iconst 2, 1) := by decide +kernel
theorem dL_law_522 : decode cL_law 522 = .ok (.iadd, 1) := by decide +kernel
theorem dL_law_523 : decode cL_law 523 = .ok (.iaload, 1) := by decide +kernel
theorem dL_law_524 : decode cL_law 524 = .ok (.aload_n 0, 1) := by decide +kernel
theorem dL_law_525 : decode cL_law 525 = .ok (.iload_n 3, 1) := by decide +kernel
theorem dL_law_526 : decode cL_law 526 = .ok (.iconst 3, 1) := by decide +kernel
theorem dL_law_527 : decode cL_law 527 = .ok (.iadd, 1) := by decide +kernel
theorem dL_law_528 : decode cL_law 528 = .ok (.iaload, 1) := by decide +kernel
theorem dL_law_529 : decode cL_law 529 = .ok (.aload_n 0, 1) := by decide +kernel
theorem dL_law_530 : decode cL_law 530 = .ok (.iload_n 3, 1) := by decide +kernel
theorem dL_law_531 : decode cL_law 531 = .ok (.iconst 4, 1) := by decide +kernel
theorem dL_law_532 : decode cL_law 532 = .ok (.iadd, 1) := by decide +kernel
theorem dL_law_533 : decode cL_law 533 = .ok (.iaload, 1) := by decide +kernel
theorem dL_law_534 : decode cL_law 534 = .ok (.invokevirtual 68, 3) := by decide +kernel
theorem dL_law_537 : decode cL_law 537 = .ok (.if_icmp .eq 402, 3) := by decide +kernel
theorem dL_law_540 : decode cL_law 540 = .ok (.iconst 0, 1) := by decide +kernel
theorem dL_law_541 : decode cL_law 541 = .ok (.ireturn, 1) := by decide +kernel
theorem dL_law_542 : decode cL_law 542 = .ok (.aload_n 1, 1) := by decide +kernel
theorem dL_law_543 : decode cL_law 543 = .ok (.aload_n 0, 1) := by decide +kernel
theorem dL_law_544 : decode cL_law 544 = .ok (.iload_n 3, 1) := by decide +kernel
theorem dL_law_545 : decode cL_law 545 = .ok (.iconst 1, 1) := by decide +kernel
theorem dL_law_546 : decode cL_law 546 = .ok (.iadd, 1) := by decide +kernel
theorem dL_law_547 : decode cL_law 547 = .ok (.iaload, 1) := by decide +kernel
theorem dL_law_548 : decode cL_law 548 = .ok (.invokevirtual 69, 3) := by decide +kernel
theorem dL_law_551 : decode cL_law 551 = .ok (.aload_n 2, 1) := by decide +kernel
theorem dL_law_552 : decode cL_law 552 = .ok (.aload_n 0, 1) := by decide +kernel
theorem dL_law_553 : decode cL_law 553 = .ok (.iload_n 3, 1) := by decide +kernel
theorem dL_law_554 : decode cL_law 554 = .ok (.iconst 1, 1) := by decide +kernel
theorem dL_law_555 : decode cL_law 555 = .ok (.iadd, 1) := by decide +kernel
theorem dL_law_556 : decode cL_law 556 = .ok (.iaload, 1) := by decide +kernel
theorem dL_law_557 : decode cL_law 557 = .ok (.invokevirtual 72, 3) := by decide +kernel
theorem dL_law_560 : decode cL_law 560 = .ok (.if_icmp .eq 379, 3) := by decide +kernel
theorem dL_law_563 : decode cL_law 563 = .ok (.iconst 0, 1) := by decide +kernel
theorem dL_law_564 : decode cL_law 564 = .ok (.ireturn, 1) := by decide +kernel
theorem dL_law_565 : decode cL_law 565 = .ok (.aload_n 1, 1) := by decide +kernel
theorem dL_law_566 : decode cL_law 566 = .ok (.aload_n 0, 1) := by decide +kernel
theorem dL_law_567 : decode cL_law 567 = .ok (.iload_n 3, 1) := by decide +kernel
theorem dL_law_568 : decode cL_law 568 = .ok (.iconst 1, 1) := by decide +kernel
theorem dL_law_569 : decode cL_law 569 = .ok (.iadd, 1) := by decide +kernel
theorem dL_law_570 : decode cL_law 570 = .ok (.iaload, 1) := by decide +kernel
theorem dL_law_571 : decode cL_law 571 = .ok (.invokevirtual 73, 3) := by decide +kernel
theorem dL_law_574 : decode cL_law 574 = .ok (.aload_n 2, 1) := by decide +kernel
theorem dL_law_575 : decode cL_law 575 = .ok (.aload_n 0, 1) := by decide +kernel
theorem dL_law_576 : decode cL_law 576 = .ok (.iload_n 3, 1) := by decide +kernel
theorem dL_law_577 : decode cL_law 577 = .ok (.iconst 1, 1) := by decide +kernel
theorem dL_law_578 : decode cL_law 578 = .ok (.iadd, 1) := by decide +kernel
theorem dL_law_579 : decode cL_law 579 = .ok (.iaload, 1) := by decide +kernel
theorem dL_law_580 : decode cL_law 580 = .ok (.invokevirtual 76, 3) := by decide +kernel
theorem dL_law_583 : decode cL_law 583 = .ok (.if_icmp .eq 356, 3) := by decide +kernel
theorem dL_law_586 : decode cL_law 586 = .ok (.iconst 0, 1) := by decide +kernel
theorem dL_law_587 : decode cL_law 587 = .ok (.ireturn, 1) := by decide +kernel
theorem dL_law_588 : decode cL_law 588 = .ok (.aload_n 1, 1) := by decide +kernel
theorem dL_law_589 : decode cL_law 589 = .ok (.aload_n 0, 1) := by decide +kernel
theorem dL_law_590 : decode cL_law 590 = .ok (.iload_n 3, 1) := by decide +kernel
theorem dL_law_591 : decode cL_law 591 = .ok (.iconst 1, 1) := by decide +kernel
theorem dL_law_592 : decode cL_law 592 = .ok (.iadd, 1) := by decide +kernel
theorem dL_law_593 : decode cL_law 593 = .ok (.iaload, 1) := by decide +kernel
theorem dL_law_594 : decode cL_law 594 = .ok (.aload_n 0, 1) := by decide +kernel
theorem dL_law_595 : decode cL_law 595 = .ok (.iload_n 3, 1) := by decide +kernel
theorem dL_law_596 : decode cL_law 596 = .ok (.iconst 2, 1) := by decide +kernel
theorem dL_law_597 : decode cL_law 597 = .ok (.iadd, 1) := by decide +kernel
theorem dL_law_598 : decode cL_law 598 = .ok (.iaload, 1) := by decide +kernel
theorem dL_law_599 : decode cL_law 599 = .ok (.invokevirtual 77, 3) := by decide +kernel
theorem dL_law_602 : decode cL_law 602 = .ok (.aload_n 2, 1) := by decide +kernel
theorem dL_law_603 : decode cL_law 603 = .ok (.aload_n 0, 1) := by decide +kernel
theorem dL_law_604 : decode cL_law 604 = .ok (.iload_n 3, 1) := by decide +kernel
theorem dL_law_605 : decode cL_law 605 = .ok (.iconst 1, 1) := by decide +kernel
theorem dL_law_606 : decode cL_law 606 = .ok (.iadd, 1) := by decide +kernel
theorem dL_law_607 : decode cL_law 607 = .ok (.iaload, 1) := by decide +kernel
theorem dL_law_608 : decode cL_law 608 = .ok (.aload_n 0, 1) := by decide +kernel
theorem dL_law_609 : decode cL_law 609 = .ok (.iload_n 3, 1) := by decide +kernel
theorem dL_law_610 : decode cL_law 610 = .ok (.iconst 2, 1) := by decide +kernel
theorem dL_law_611 : decode cL_law 611 = .ok (.iadd, 1) := by decide +kernel
theorem dL_law_612 : decode cL_law 612 = .ok (.iaload, 1) := by decide +kernel
theorem dL_law_613 : decode cL_law 613 = .ok (.invokevirtual 80, 3) := by decide +kernel
theorem dL_law_616 : decode cL_law 616 = .ok (.if_icmp .eq 323, 3) := by decide +kernel
theorem dL_law_619 : decode cL_law 619 = .ok (.iconst 0, 1) := by decide +kernel
theorem dL_law_620 : decode cL_law 620 = .ok (.ireturn, 1) := by decide +kernel
theorem dL_law_621 : decode cL_law 621 = .ok (.aload_n 1, 1) := by decide +kernel
theorem dL_law_622 : decode cL_law 622 = .ok (.aload_n 0, 1) := by decide +kernel
theorem dL_law_623 : decode cL_law 623 = .ok (.iload_n 3, 1) := by decide +kernel
theorem dL_law_624 : decode cL_law 624 = .ok (.iconst 1, 1) := by decide +kernel
theorem dL_law_625 : decode cL_law 625 = .ok (.iadd, 1) := by decide +kernel
theorem dL_law_626 : decode cL_law 626 = .ok (.iaload, 1) := by decide +kernel
theorem dL_law_627 : decode cL_law 627 = .ok (.aload_n 0, 1) := by decide +kernel
theorem dL_law_628 : decode cL_law 628 = .ok (.iload_n 3, 1) := by decide +kernel
theorem dL_law_629 : decode cL_law 629 = .ok (.iconst 2, 1) := by decide +kernel
theorem dL_law_630 : decode cL_law 630 = .ok (.iadd, 1) := by decide +kernel
theorem dL_law_631 : decode cL_law 631 = .ok (.iaload, 1) := by decide +kernel
theorem dL_law_632 : decode cL_law 632 = .ok (.aload_n 0, 1) := by decide +kernel
theorem dL_law_633 : decode cL_law 633 = .ok (.iload_n 3, 1) := by decide +kernel
theorem dL_law_634 : decode cL_law 634 = .ok (.iconst 3, 1) := by decide +kernel
theorem dL_law_635 : decode cL_law 635 = .ok (.iadd, 1) := by decide +kernel
theorem dL_law_636 : decode cL_law 636 = .ok (.iaload, 1) := by decide +kernel
theorem dL_law_637 : decode cL_law 637 = .ok (.invokevirtual 81, 3) := by decide +kernel
theorem dL_law_640 : decode cL_law 640 = .ok (.aload_n 2, 1) := by decide +kernel
theorem dL_law_641 : decode cL_law 641 = .ok (.aload_n 0, 1) := by decide +kernel
theorem dL_law_642 : decode cL_law 642 = .ok (.iload_n 3, 1) := by decide +kernel
theorem dL_law_643 : decode cL_law 643 = .ok (.iconst 1, 1) := by decide +kernel
theorem dL_law_644 : decode cL_law 644 = .ok (.iadd, 1) := by decide +kernel
theorem dL_law_645 : decode cL_law 645 = .ok (.iaload, 1) := by decide +kernel
theorem dL_law_646 : decode cL_law 646 = .ok (.aload_n 0, 1) := by decide +kernel
theorem dL_law_647 : decode cL_law 647 = .ok (.iload_n 3, 1) := by decide +kernel
theorem dL_law_648 : decode cL_law 648 = .ok (.iconst 2, 1) := by decide +kernel
theorem dL_law_649 : decode cL_law 649 = .ok (.iadd, 1) := by decide +kernel
theorem dL_law_650 : decode cL_law 650 = .ok (.iaload, 1) := by decide +kernel
theorem dL_law_651 : decode cL_law 651 = .ok (.aload_n 0, 1) := by decide +kernel
theorem dL_law_652 : decode cL_law 652 = .ok (.iload_n 3, 1) := by decide +kernel
theorem dL_law_653 : decode cL_law 653 = .ok (.iconst 3, 1) := by decide +kernel
theorem dL_law_654 : decode cL_law 654 = .ok (.iadd, 1) := by decide +kernel
theorem dL_law_655 : decode cL_law 655 = .ok (.iaload, 1) := by decide +kernel
theorem dL_law_656 : decode cL_law 656 = .ok (.invokevirtual 84, 3) := by decide +kernel
theorem dL_law_659 : decode cL_law 659 = .ok (.if_icmp .eq 280, 3) := by decide +kernel
theorem dL_law_662 : decode cL_law 662 = .ok (.iconst 0, 1) := by decide +kernel
theorem dL_law_663 : decode cL_law 663 = .ok (.ireturn, 1) := by decide +kernel
theorem dL_law_664 : decode cL_law 664 = .ok (.aload_n 1, 1) := by decide +kernel
theorem dL_law_665 : decode cL_law 665 = .ok (.invokevirtual 85, 3) := by decide +kernel
theorem dL_law_668 : decode cL_law 668 = .ok (.aload_n 2, 1) := by decide +kernel
theorem dL_law_669 : decode cL_law 669 = .ok (.invokevirtual 88, 3) := by decide +kernel
theorem dL_law_672 : decode cL_law 672 = .ok (.if_icmp .eq 267, 3) := by decide +kernel
theorem dL_law_675 : decode cL_law 675 = .ok (.iconst 0, 1) := by decide +kernel
theorem dL_law_676 : decode cL_law 676 = .ok (.ireturn, 1) := by decide +kernel
theorem dL_law_677 : decode cL_law 677 = .ok (.aload_n 1, 1) := by decide +kernel
theorem dL_law_678 : decode cL_law 678 = .ok (.aload_n 0, 1) := by decide +kernel
theorem dL_law_679 : decode cL_law 679 = .ok (.iload_n 3, 1) := by decide +kernel
theorem dL_law_680 : decode cL_law 680 = .ok (.iconst 1, 1) := by decide +kernel
theorem dL_law_681 : decode cL_law 681 = .ok (.iadd, 1) := by decide +kernel
theorem dL_law_682 : decode cL_law 682 = .ok (.iaload, 1) := by decide +kernel
theorem dL_law_683 : decode cL_law 683 = .ok (.aload_n 0, 1) := by decide +kernel
theorem dL_law_684 : decode cL_law 684 = .ok (.iload_n 3, 1) := by decide +kernel
theorem dL_law_685 : decode cL_law 685 = .ok (.iconst 2, 1) := by decide +kernel
theorem dL_law_686 : decode cL_law 686 = .ok (.iadd, 1) := by decide +kernel
theorem dL_law_687 : decode cL_law 687 = .ok (.iaload, 1) := by decide +kernel
theorem dL_law_688 : decode cL_law 688 = .ok (.invokevirtual 89, 3) := by decide +kernel
theorem dL_law_691 : decode cL_law 691 = .ok (.aload_n 2, 1) := by decide +kernel
theorem dL_law_692 : decode cL_law 692 = .ok (.aload_n 0, 1) := by decide +kernel
theorem dL_law_693 : decode cL_law 693 = .ok (.iload_n 3, 1) := by decide +kernel
theorem dL_law_694 : decode cL_law 694 = .ok (.iconst 1, 1) := by decide +kernel
theorem dL_law_695 : decode cL_law 695 = .ok (.iadd, 1) := by decide +kernel
theorem dL_law_696 : decode cL_law 696 = .ok (.iaload, 1) := by decide +kernel
theorem dL_law_697 : decode cL_law 697 = .ok (.aload_n 0, 1) := by decide +kernel
theorem dL_law_698 : decode cL_law 698 = .ok (.iload_n 3, 1) := by decide +kernel
theorem dL_law_699 : decode cL_law 699 = .ok (.iconst 2, 1) := by decide +kernel
theorem dL_law_700 : decode cL_law 700 = .ok (.iadd, 1) := by decide +kernel
theorem dL_law_701 : decode cL_law 701 = .ok (.iaload, 1) := by decide +kernel
theorem dL_law_702 : decode cL_law 702 = .ok (.invokevirtual 92, 3) := by decide +kernel
theorem dL_law_705 : decode cL_law 705 = .ok (.if_icmp .eq 234, 3) := by decide +kernel
theorem dL_law_708 : decode cL_law 708 = .ok (.iconst 0, 1) := by decide +kernel
theorem dL_law_709 : decode cL_law 709 = .ok (.ireturn, 1) := by decide +kernel
theorem dL_law_710 : decode cL_law 710 = .ok (.aload_n 1, 1) := by decide +kernel
theorem dL_law_711 : decode cL_law 711 = .ok (.aload_n 0, 1) := by decide +kernel
theorem dL_law_712 : decode cL_law 712 = .ok (.iload_n 3, 1) := by decide +kernel
theorem dL_law_713 : decode cL_law 713 = .ok (.iconst 1, 1) := by decide +kernel
theorem dL_law_714 : decode cL_law 714 = .ok (.iadd, 1) := by decide +kernel
theorem dL_law_715 : decode cL_law 715 = .ok (.iaload, 1) := by decide +kernel
theorem dL_law_716 : decode cL_law 716 = .ok (.aload_n 0, 1) := by decide +kernel
theorem dL_law_717 : decode cL_law 717 = .ok (.iload_n 3, 1) := by decide +kernel
theorem dL_law_718 : decode cL_law 718 = .ok (.iconst 2, 1) := by decide +kernel
theorem dL_law_719 : decode cL_law 719 = .ok (.iadd, 1) := by decide +kernel
theorem dL_law_720 : decode cL_law 720 = .ok (.iaload, 1) := by decide +kernel
theorem dL_law_721 : decode cL_law 721 = .ok (.invokevirtual 93, 3) := by decide +kernel
theorem dL_law_724 : decode cL_law 724 = .ok (.aload_n 2, 1) := by decide +kernel
theorem dL_law_725 : decode cL_law 725 = .ok (.aload_n 0, 1) := by decide +kernel
theorem dL_law_726 : decode cL_law 726 = .ok (.iload_n 3, 1) := by decide +kernel
theorem dL_law_727 : decode cL_law 727 = .ok (.iconst 1, 1) := by decide +kernel
theorem dL_law_728 : decode cL_law 728 = .ok (.iadd, 1) := by decide +kernel
theorem dL_law_729 : decode cL_law 729 = .ok (.iaload, 1) := by decide +kernel
theorem dL_law_730 : decode cL_law 730 = .ok (.aload_n 0, 1) := by decide +kernel
theorem dL_law_731 : decode cL_law 731 = .ok (.iload_n 3, 1) := by decide +kernel
theorem dL_law_732 : decode cL_law 732 = .ok (.iconst 2, 1) := by decide +kernel
theorem dL_law_733 : decode cL_law 733 = .ok (.iadd, 1) := by decide +kernel
theorem dL_law_734 : decode cL_law 734 = .ok (.iaload, 1) := by decide +kernel
theorem dL_law_735 : decode cL_law 735 = .ok (.invokevirtual 96, 3) := by decide +kernel
theorem dL_law_738 : decode cL_law 738 = .ok (.if_icmp .eq 201, 3) := by decide +kernel
theorem dL_law_741 : decode cL_law 741 = .ok (.iconst 0, 1) := by decide +kernel
theorem dL_law_742 : decode cL_law 742 = .ok (.ireturn, 1) := by decide +kernel
theorem dL_law_743 : decode cL_law 743 = .ok (.aload_n 1, 1) := by decide +kernel
theorem dL_law_744 : decode cL_law 744 = .ok (.aload_n 0, 1) := by decide +kernel
theorem dL_law_745 : decode cL_law 745 = .ok (.iload_n 3, 1) := by decide +kernel
theorem dL_law_746 : decode cL_law 746 = .ok (.iconst 1, 1) := by decide +kernel
theorem dL_law_747 : decode cL_law 747 = .ok (.iadd, 1) := by decide +kernel
theorem dL_law_748 : decode cL_law 748 = .ok (.iaload, 1) := by decide +kernel
theorem dL_law_749 : decode cL_law 749 = .ok (.aload_n 0, 1) := by decide +kernel
theorem dL_law_750 : decode cL_law 750 = .ok (.iload_n 3, 1) := by decide +kernel
theorem dL_law_751 : decode cL_law 751 = .ok (.iconst 2, 1) := by decide +kernel
theorem dL_law_752 : decode cL_law 752 = .ok (.iadd, 1) := by decide +kernel
theorem dL_law_753 : decode cL_law 753 = .ok (.iaload, 1) := by decide +kernel
theorem dL_law_754 : decode cL_law 754 = .ok (.invokevirtual 97, 3) := by decide +kernel
theorem dL_law_757 : decode cL_law 757 = .ok (.aload_n 2, 1) := by decide +kernel
theorem dL_law_758 : decode cL_law 758 = .ok (.aload_n 0, 1) := by decide +kernel
theorem dL_law_759 : decode cL_law 759 = .ok (.iload_n 3, 1) := by decide +kernel
theorem dL_law_760 : decode cL_law 760 = .ok (.iconst 1, 1) := by decide +kernel
theorem dL_law_761 : decode cL_law 761 = .ok (.iadd, 1) := by decide +kernel
theorem dL_law_762 : decode cL_law 762 = .ok (.iaload, 1) := by decide +kernel
theorem dL_law_763 : decode cL_law 763 = .ok (.aload_n 0, 1) := by decide +kernel
theorem dL_law_764 : decode cL_law 764 = .ok (.iload_n 3, 1) := by decide +kernel
theorem dL_law_765 : decode cL_law 765 = .ok (.iconst 2, 1) := by decide +kernel
theorem dL_law_766 : decode cL_law 766 = .ok (.iadd, 1) := by decide +kernel
theorem dL_law_767 : decode cL_law 767 = .ok (.iaload, 1) := by decide +kernel
theorem dL_law_768 : decode cL_law 768 = .ok (.invokevirtual 100, 3) := by decide +kernel
theorem dL_law_771 : decode cL_law 771 = .ok (.if_icmp .eq 168, 3) := by decide +kernel
theorem dL_law_774 : decode cL_law 774 = .ok (.iconst 0, 1) := by decide +kernel
theorem dL_law_775 : decode cL_law 775 = .ok (.ireturn, 1) := by decide +kernel
theorem dL_law_776 : decode cL_law 776 = .ok (.aload_n 1, 1) := by decide +kernel
theorem dL_law_777 : decode cL_law 777 = .ok (.aload_n 0, 1) := by decide +kernel
theorem dL_law_778 : decode cL_law 778 = .ok (.iload_n 3, 1) := by decide +kernel
theorem dL_law_779 : decode cL_law 779 = .ok (.iconst 1, 1) := by decide +kernel
theorem dL_law_780 : decode cL_law 780 = .ok (.iadd, 1) := by decide +kernel
theorem dL_law_781 : decode cL_law 781 = .ok (.iaload, 1) := by decide +kernel
theorem dL_law_782 : decode cL_law 782 = .ok (.aload_n 0, 1) := by decide +kernel
theorem dL_law_783 : decode cL_law 783 = .ok (.iload_n 3, 1) := by decide +kernel
theorem dL_law_784 : decode cL_law 784 = .ok (.iconst 2, 1) := by decide +kernel
theorem dL_law_785 : decode cL_law 785 = .ok (.iadd, 1) := by decide +kernel
theorem dL_law_786 : decode cL_law 786 = .ok (.iaload, 1) := by decide +kernel
theorem dL_law_787 : decode cL_law 787 = .ok (.invokevirtual 101, 3) := by decide +kernel
theorem dL_law_790 : decode cL_law 790 = .ok (.aload_n 2, 1) := by decide +kernel
theorem dL_law_791 : decode cL_law 791 = .ok (.aload_n 0, 1) := by decide +kernel
theorem dL_law_792 : decode cL_law 792 = .ok (.iload_n 3, 1) := by decide +kernel
theorem dL_law_793 : decode cL_law 793 = .ok (.iconst 1, 1) := by decide +kernel
theorem dL_law_794 : decode cL_law 794 = .ok (.iadd, 1) := by decide +kernel
theorem dL_law_795 : decode cL_law 795 = .ok (.iaload, 1) := by decide +kernel
theorem dL_law_796 : decode cL_law 796 = .ok (.aload_n 0, 1) := by decide +kernel
theorem dL_law_797 : decode cL_law 797 = .ok (.iload_n 3, 1) := by decide +kernel
theorem dL_law_798 : decode cL_law 798 = .ok (.iconst 2, 1) := by decide +kernel
theorem dL_law_799 : decode cL_law 799 = .ok (.iadd, 1) := by decide +kernel
theorem dL_law_800 : decode cL_law 800 = .ok (.iaload, 1) := by decide +kernel
theorem dL_law_801 : decode cL_law 801 = .ok (.invokevirtual 104, 3) := by decide +kernel
theorem dL_law_804 : decode cL_law 804 = .ok (.if_icmp .eq 135, 3) := by decide +kernel
theorem dL_law_807 : decode cL_law 807 = .ok (.iconst 0, 1) := by decide +kernel
theorem dL_law_808 : decode cL_law 808 = .ok (.ireturn, 1) := by decide +kernel
theorem dL_law_809 : decode cL_law 809 = .ok (.aload_n 1, 1) := by decide +kernel
theorem dL_law_810 : decode cL_law 810 = .ok (.aload_n 0, 1) := by decide +kernel
theorem dL_law_811 : decode cL_law 811 = .ok (.iload_n 3, 1) := by decide +kernel
theorem dL_law_812 : decode cL_law 812 = .ok (.iconst 1, 1) := by decide +kernel
theorem dL_law_813 : decode cL_law 813 = .ok (.iadd, 1) := by decide +kernel
theorem dL_law_814 : decode cL_law 814 = .ok (.iaload, 1) := by decide +kernel
theorem dL_law_815 : decode cL_law 815 = .ok (.invokevirtual 105, 3) := by decide +kernel
theorem dL_law_818 : decode cL_law 818 = .ok (.aload_n 2, 1) := by decide +kernel
theorem dL_law_819 : decode cL_law 819 = .ok (.aload_n 0, 1) := by decide +kernel
theorem dL_law_820 : decode cL_law 820 = .ok (.iload_n 3, 1) := by decide +kernel
theorem dL_law_821 : decode cL_law 821 = .ok (.iconst 1, 1) := by decide +kernel
theorem dL_law_822 : decode cL_law 822 = .ok (.iadd, 1) := by decide +kernel
theorem dL_law_823 : decode cL_law 823 = .ok (.iaload, 1) := by decide +kernel
theorem dL_law_824 : decode cL_law 824 = .ok (.invokevirtual 109, 3) := by decide +kernel
theorem dL_law_827 : decode cL_law 827 = .ok (.lcmp, 1) := by decide +kernel
theorem dL_law_828 : decode cL_law 828 = .ok (.ifCond .eq 111, 3) := by decide +kernel
theorem dL_law_831 : decode cL_law 831 = .ok (.iconst 0, 1) := by decide +kernel
theorem dL_law_832 : decode cL_law 832 = .ok (.ireturn, 1) := by decide +kernel
theorem dL_law_833 : decode cL_law 833 = .ok (.aload_n 1, 1) := by decide +kernel
theorem dL_law_834 : decode cL_law 834 = .ok (.aload_n 0, 1) := by decide +kernel
theorem dL_law_835 : decode cL_law 835 = .ok (.iload_n 3, 1) := by decide +kernel
theorem dL_law_836 : decode cL_law 836 = .ok (.iconst 1, 1) := by decide +kernel
theorem dL_law_837 : decode cL_law 837 = .ok (.iadd, 1) := by decide +kernel
theorem dL_law_838 : decode cL_law 838 = .ok (.iaload, 1) := by decide +kernel
theorem dL_law_839 : decode cL_law 839 = .ok (.invokevirtual 110, 3) := by decide +kernel
theorem dL_law_842 : decode cL_law 842 = .ok (.aload_n 2, 1) := by decide +kernel
theorem dL_law_843 : decode cL_law 843 = .ok (.aload_n 0, 1) := by decide +kernel
theorem dL_law_844 : decode cL_law 844 = .ok (.iload_n 3, 1) := by decide +kernel
theorem dL_law_845 : decode cL_law 845 = .ok (.iconst 1, 1) := by decide +kernel
theorem dL_law_846 : decode cL_law 846 = .ok (.iadd, 1) := by decide +kernel
theorem dL_law_847 : decode cL_law 847 = .ok (.iaload, 1) := by decide +kernel
theorem dL_law_848 : decode cL_law 848 = .ok (.invokevirtual 113, 3) := by decide +kernel
theorem dL_law_851 : decode cL_law 851 = .ok (.if_icmp .eq 88, 3) := by decide +kernel
theorem dL_law_854 : decode cL_law 854 = .ok (.iconst 0, 1) := by decide +kernel
theorem dL_law_855 : decode cL_law 855 = .ok (.ireturn, 1) := by decide +kernel
theorem dL_law_856 : decode cL_law 856 = .ok (.aload_n 1, 1) := by decide +kernel
theorem dL_law_857 : decode cL_law 857 = .ok (.aload_n 0, 1) := by decide +kernel
theorem dL_law_858 : decode cL_law 858 = .ok (.iload_n 3, 1) := by decide +kernel
theorem dL_law_859 : decode cL_law 859 = .ok (.iconst 1, 1) := by decide +kernel
theorem dL_law_860 : decode cL_law 860 = .ok (.iadd, 1) := by decide +kernel
theorem dL_law_861 : decode cL_law 861 = .ok (.iaload, 1) := by decide +kernel
theorem dL_law_862 : decode cL_law 862 = .ok (.invokevirtual 114, 3) := by decide +kernel
theorem dL_law_865 : decode cL_law 865 = .ok (.aload_n 2, 1) := by decide +kernel
theorem dL_law_866 : decode cL_law 866 = .ok (.aload_n 0, 1) := by decide +kernel
theorem dL_law_867 : decode cL_law 867 = .ok (.iload_n 3, 1) := by decide +kernel
theorem dL_law_868 : decode cL_law 868 = .ok (.iconst 1, 1) := by decide +kernel
theorem dL_law_869 : decode cL_law 869 = .ok (.iadd, 1) := by decide +kernel
theorem dL_law_870 : decode cL_law 870 = .ok (.iaload, 1) := by decide +kernel
theorem dL_law_871 : decode cL_law 871 = .ok (.invokevirtual 117, 3) := by decide +kernel
theorem dL_law_874 : decode cL_law 874 = .ok (.if_icmp .eq 65, 3) := by decide +kernel
theorem dL_law_877 : decode cL_law 877 = .ok (.iconst 0, 1) := by decide +kernel
theorem dL_law_878 : decode cL_law 878 = .ok (.ireturn, 1) := by decide +kernel
theorem dL_law_879 : decode cL_law 879 = .ok (.aload_n 1, 1) := by decide +kernel
theorem dL_law_880 : decode cL_law 880 = .ok (.aload_n 0, 1) := by decide +kernel
theorem dL_law_881 : decode cL_law 881 = .ok (.iload_n 3, 1) := by decide +kernel
theorem dL_law_882 : decode cL_law 882 = .ok (.iconst 1, 1) := by decide +kernel
theorem dL_law_883 : decode cL_law 883 = .ok (.iadd, 1) := by decide +kernel
theorem dL_law_884 : decode cL_law 884 = .ok (.iaload, 1) := by decide +kernel
theorem dL_law_885 : decode cL_law 885 = .ok (.invokevirtual 118, 3) := by decide +kernel
theorem dL_law_888 : decode cL_law 888 = .ok (.aload_n 2, 1) := by decide +kernel
theorem dL_law_889 : decode cL_law 889 = .ok (.aload_n 0, 1) := by decide +kernel
theorem dL_law_890 : decode cL_law 890 = .ok (.iload_n 3, 1) := by decide +kernel
theorem dL_law_891 : decode cL_law 891 = .ok (.iconst 1, 1) := by decide +kernel
theorem dL_law_892 : decode cL_law 892 = .ok (.iadd, 1) := by decide +kernel
theorem dL_law_893 : decode cL_law 893 = .ok (.iaload, 1) := by decide +kernel
theorem dL_law_894 : decode cL_law 894 = .ok (.invokevirtual 121, 3) := by decide +kernel
theorem dL_law_897 : decode cL_law 897 = .ok (.if_icmp .eq 42, 3) := by decide +kernel
theorem dL_law_900 : decode cL_law 900 = .ok (.iconst 0, 1) := by decide +kernel
theorem dL_law_901 : decode cL_law 901 = .ok (.ireturn, 1) := by decide +kernel
theorem dL_law_902 : decode cL_law 902 = .ok (.aload_n 1, 1) := by decide +kernel
theorem dL_law_903 : decode cL_law 903 = .ok (.aload_n 0, 1) := by decide +kernel
theorem dL_law_904 : decode cL_law 904 = .ok (.iload_n 3, 1) := by decide +kernel
theorem dL_law_905 : decode cL_law 905 = .ok (.iconst 1, 1) := by decide +kernel
theorem dL_law_906 : decode cL_law 906 = .ok (.iadd, 1) := by decide +kernel
theorem dL_law_907 : decode cL_law 907 = .ok (.iaload, 1) := by decide +kernel
theorem dL_law_908 : decode cL_law 908 = .ok (.invokevirtual 122, 3) := by decide +kernel
theorem dL_law_911 : decode cL_law 911 = .ok (.aload_n 2, 1) := by decide +kernel
theorem dL_law_912 : decode cL_law 912 = .ok (.aload_n 0, 1) := by decide +kernel
theorem dL_law_913 : decode cL_law 913 = .ok (.iload_n 3, 1) := by decide +kernel
theorem dL_law_914 : decode cL_law 914 = .ok (.iconst 1, 1) := by decide +kernel
theorem dL_law_915 : decode cL_law 915 = .ok (.iadd, 1) := by decide +kernel
theorem dL_law_916 : decode cL_law 916 = .ok (.iaload, 1) := by decide +kernel
theorem dL_law_917 : decode cL_law 917 = .ok (.invokevirtual 125, 3) := by decide +kernel
theorem dL_law_920 : decode cL_law 920 = .ok (.if_icmp .eq 19, 3) := by decide +kernel
theorem dL_law_923 : decode cL_law 923 = .ok (.iconst 0, 1) := by decide +kernel
theorem dL_law_924 : decode cL_law 924 = .ok (.ireturn, 1) := by decide +kernel
theorem dL_law_925 : decode cL_law 925 = .ok (.aload_n 1, 1) := by decide +kernel
theorem dL_law_926 : decode cL_law 926 = .ok (.invokevirtual 126, 3) := by decide +kernel
theorem dL_law_929 : decode cL_law 929 = .ok (.aload_n 2, 1) := by decide +kernel
theorem dL_law_930 : decode cL_law 930 = .ok (.invokevirtual 130, 3) := by decide +kernel
theorem dL_law_933 : decode cL_law 933 = .ok (.lcmp, 1) := by decide +kernel
theorem dL_law_934 : decode cL_law 934 = .ok (.ifCond .eq 5, 3) := by decide +kernel
theorem dL_law_937 : decode cL_law 937 = .ok (.iconst 0, 1) := by decide +kernel
theorem dL_law_938 : decode cL_law 938 = .ok (.ireturn, 1) := by decide +kernel
theorem dL_law_939 : decode cL_law 939 = .ok (.iinc 3 5, 3) := by decide +kernel
theorem dL_law_942 : decode cL_law 942 = .ok (.goto (-924), 3) := by decide +kernel
theorem dL_law_945 : decode cL_law 945 = .ok (.iconst 1, 1) := by decide +kernel
theorem dL_law_946 : decode cL_law 946 = .ok (.ireturn, 1) := by decide +kernel
end
section
/-- the words that every method takes along: the good ones among the tables' -/
def wsL_law : List Cond := lw_tbl.filter goodWord
theorem wb_good : GoodIn lw_tbl wsL_law := fun w h => ⟨(List.mem_filter.mp h).1, good_of_word (List.mem_filter.mp h).2⟩
theorem wb_t1 {w : Cond} (i : Nat) (hi : tables_1_1[i]? = some w) (hg : goodWord w = true) : w ∈ wsL_law := List.mem_filter.mpr ⟨List.mem_append_right _ (show w ∈ tables_1_1 ++ (tables_1_2 ++ (tables_1_3 ++ (tables_1_4 ++ tables_1_5))) from have h := List.mem_of_getElem? hi; List.mem_append_left _ h), hg⟩
theorem wb_t2 {w : Cond} (i : Nat) (hi : tables_1_2[i]? = some w) (hg : goodWord w = true) : w ∈ wsL_law := List.mem_filter.mpr ⟨List.mem_append_right _ (show w ∈ tables_1_1 ++ (tables_1_2 ++ (tables_1_3 ++ (tables_1_4 ++ tables_1_5))) from have h := List.mem_of_getElem? hi; List.mem_append_right _ (List.mem_append_left _ h)), hg⟩
theorem wb_t3 {w : Cond} (i : Nat) (hi : tables_1_3[i]? = some w) (hg : goodWord w = true) : w ∈ wsL_law := List.mem_filter.mpr ⟨List.mem_append_right _ (show w ∈ tables_1_1 ++ (tables_1_2 ++ (tables_1_3 ++ (tables_1_4 ++ tables_1_5))) from have h := List.mem_of_getElem? hi; List.mem_append_right _ (List.mem_append_right _ (List.mem_append_left _ h))), hg⟩
theorem wb_t4 {w : Cond} (i : Nat) (hi : tables_1_4[i]? = some w) (hg : goodWord w = true) : w ∈ wsL_law := List.mem_filter.mpr ⟨List.mem_append_right _ (show w ∈ tables_1_1 ++ (tables_1_2 ++ (tables_1_3 ++ (tables_1_4 ++ tables_1_5))) from have h := List.mem_of_getElem? hi; List.mem_append_right _ (List.mem_append_right _ (List.mem_append_right _ (List.mem_append_left _ h)))), hg⟩
theorem wb_t5 {w : Cond} (i : Nat) (hi : tables_1_5[i]? = some w) (hg : goodWord w = true) : w ∈ wsL_law := List.mem_filter.mpr ⟨List.mem_append_right _ (show w ∈ tables_1_1 ++ (tables_1_2 ++ (tables_1_3 ++ (tables_1_4 ++ tables_1_5))) from have h := List.mem_of_getElem? hi; List.mem_append_right _ (List.mem_append_right _ (List.mem_append_right _ (List.mem_append_right _ (h))))), hg⟩
theorem wb_p1 {w : Cond} {q : MethodName × Nat} (i : Nat) (hi : lw_privs_1[i]? = some q) (hw : Cond.selects q.1.cls q.1 q.1 = w) (hg : goodWord w = true) : w ∈ wsL_law := List.mem_filter.mpr ⟨List.mem_append_left _ (List.mem_map.mpr ⟨q, (show q ∈ lw_privs_1 ++ (lw_privs_2 ++ (lw_privs_3 ++ lw_privs_4)) from have h := List.mem_of_getElem? hi; List.mem_append_left _ h), hw⟩), hg⟩
theorem wb_p2 {w : Cond} {q : MethodName × Nat} (i : Nat) (hi : lw_privs_2[i]? = some q) (hw : Cond.selects q.1.cls q.1 q.1 = w) (hg : goodWord w = true) : w ∈ wsL_law := List.mem_filter.mpr ⟨List.mem_append_left _ (List.mem_map.mpr ⟨q, (show q ∈ lw_privs_1 ++ (lw_privs_2 ++ (lw_privs_3 ++ lw_privs_4)) from have h := List.mem_of_getElem? hi; List.mem_append_right _ (List.mem_append_left _ h)), hw⟩), hg⟩
theorem wb_p3 {w : Cond} {q : MethodName × Nat} (i : Nat) (hi : lw_privs_3[i]? = some q) (hw : Cond.selects q.1.cls q.1 q.1 = w) (hg : goodWord w = true) : w ∈ wsL_law := List.mem_filter.mpr ⟨List.mem_append_left _ (List.mem_map.mpr ⟨q, (show q ∈ lw_privs_1 ++ (lw_privs_2 ++ (lw_privs_3 ++ lw_privs_4)) from have h := List.mem_of_getElem? hi; List.mem_append_right _ (List.mem_append_right _ (List.mem_append_left _ h))), hw⟩), hg⟩
theorem wb_p4 {w : Cond} {q : MethodName × Nat} (i : Nat) (hi : lw_privs_4[i]? = some q) (hw : Cond.selects q.1.cls q.1 q.1 = w) (hg : goodWord w = true) : w ∈ wsL_law := List.mem_filter.mpr ⟨List.mem_append_left _ (List.mem_map.mpr ⟨q, (show q ∈ lw_privs_1 ++ (lw_privs_2 ++ (lw_privs_3 ++ lw_privs_4)) from have h := List.mem_of_getElem? hi; List.mem_append_right _ (List.mem_append_right _ (List.mem_append_right _ (h)))), hw⟩), hg⟩
set_option maxRecDepth 4000 in
theorem q_0 : Cond.classLink RL 7 RX11 ∈ wsL_law := wb_t1 22 rfl rfl
set_option maxRecDepth 4000 in
theorem q_1 : Cond.instantiable RX11 9 ∈ wsL_law := wb_t1 23 rfl rfl
set_option maxRecDepth 4000 in
theorem q_2 : Cond.initialized RX11 ∈ wsL_law := wb_t1 1 rfl rfl
set_option maxRecDepth 4000 in
theorem q_3 : Cond.classLink RL 10 RX12 ∈ wsL_law := wb_t4 83 rfl rfl
set_option maxRecDepth 4000 in
theorem q_4 : Cond.instantiable RX12 25 ∈ wsL_law := wb_t4 84 rfl rfl
set_option maxRecDepth 4000 in
theorem q_5 : Cond.initialized RX12 ∈ wsL_law := wb_t1 14 rfl rfl
set_option maxRecDepth 4000 in
theorem q_6 : Cond.constantLong RL 33 (4294967295) ∈ wsL_law := wb_t5 224 rfl rfl
set_option maxRecDepth 4000 in
theorem q_7 : Cond.methodLink RL 9 yX11_init ∈ wsL_law := wb_t1 24 rfl rfl
set_option maxRecDepth 4000 in
theorem q_8 : Cond.instanceMethod yX11_init ∈ wsL_law := wb_t1 25 rfl rfl
set_option maxRecDepth 4000 in
theorem q_9 : Cond.code yX11_init cX11_init 3 none ∈ wsL_law := wb_t1 26 rfl rfl
set_option maxRecDepth 4000 in
theorem q_10 : Cond.methodLink RX11 1 objectInit ∈ wsL_law := wb_t1 27 rfl rfl
set_option maxRecDepth 4000 in
theorem q_11 : Cond.instanceMethod objectInit ∈ wsL_law := wb_t1 28 rfl rfl
set_option maxRecDepth 4000 in
theorem q_12 : Cond.classLink RX11 7 RX3 ∈ wsL_law := wb_t1 30 rfl rfl
set_option maxRecDepth 4000 in
theorem q_13 : Cond.instantiable RX3 0 ∈ wsL_law := wb_t1 32 rfl rfl
set_option maxRecDepth 4000 in
theorem q_14 : Cond.initialized RX3 ∈ wsL_law := wb_t1 2 rfl rfl
set_option maxRecDepth 4000 in
theorem q_15 : Cond.classLink RX11 10 RX10 ∈ wsL_law := wb_t1 38 rfl rfl
set_option maxRecDepth 4000 in
theorem q_16 : Cond.instantiable RX10 0 ∈ wsL_law := wb_t1 39 rfl rfl
set_option maxRecDepth 4000 in
theorem q_17 : Cond.initialized RX10 ∈ wsL_law := wb_t1 3 rfl rfl
set_option maxRecDepth 4000 in
theorem q_18 : Cond.classLink RX11 13 RX1 ∈ wsL_law := wb_t1 45 rfl rfl
set_option maxRecDepth 4000 in
theorem q_19 : Cond.instantiable RX1 0 ∈ wsL_law := wb_t1 46 rfl rfl
set_option maxRecDepth 4000 in
theorem q_20 : Cond.initialized RX1 ∈ wsL_law := wb_t1 4 rfl rfl
set_option maxRecDepth 4000 in
theorem q_21 : Cond.classLink RX11 16 RX8 ∈ wsL_law := wb_t1 52 rfl rfl
set_option maxRecDepth 4000 in
theorem q_22 : Cond.instantiable RX8 0 ∈ wsL_law := wb_t1 53 rfl rfl
set_option maxRecDepth 4000 in
theorem q_23 : Cond.initialized RX8 ∈ wsL_law := wb_t1 5 rfl rfl
set_option maxRecDepth 4000 in
theorem q_24 : Cond.classLink RX11 19 RX6 ∈ wsL_law := wb_t1 59 rfl rfl
set_option maxRecDepth 4000 in
theorem q_25 : Cond.instantiable RX6 0 ∈ wsL_law := wb_t1 60 rfl rfl
set_option maxRecDepth 4000 in
theorem q_26 : Cond.initialized RX6 ∈ wsL_law := wb_t1 6 rfl rfl
set_option maxRecDepth 4000 in
theorem q_27 : Cond.classLink RX11 22 RX7 ∈ wsL_law := wb_t1 66 rfl rfl
set_option maxRecDepth 4000 in
theorem q_28 : Cond.instantiable RX7 4 ∈ wsL_law := wb_t1 67 rfl rfl
set_option maxRecDepth 4000 in
theorem q_29 : Cond.initialized RX7 ∈ wsL_law := wb_t1 7 rfl rfl
set_option maxRecDepth 4000 in
theorem q_30 : Cond.fieldLink RX11 27 "RingShepherds" "now" "LRingShepherds$Story;" ∈ wsL_law := wb_t2 18 rfl rfl
set_option maxRecDepth 4000 in
theorem q_31 : Cond.fieldLink RX11 33 "RingShepherds" "images" "[LRingShepherds$Story;" ∈ wsL_law := wb_t2 19 rfl rfl
set_option maxRecDepth 4000 in
theorem q_32 : Cond.arrayClass .boolean ∈ wsL_law := wb_t1 186 rfl rfl
set_option maxRecDepth 4000 in
theorem q_33 : Cond.fieldLink RX11 37 "RingShepherds" "kept" "[Z" ∈ wsL_law := wb_t2 20 rfl rfl
set_option maxRecDepth 4000 in
theorem q_34 : Cond.classLink RX11 41 RX0 ∈ wsL_law := wb_t1 157 rfl rfl
set_option maxRecDepth 4000 in
theorem q_35 : Cond.instantiable RX0 8 ∈ wsL_law := wb_t1 158 rfl rfl
set_option maxRecDepth 4000 in
theorem q_36 : Cond.initialized RX0 ∈ wsL_law := wb_t1 10 rfl rfl
set_option maxRecDepth 4000 in
theorem q_37 : Cond.fieldLink RX11 43 "RingShepherds$Story" "ring" "LRingShepherds$Ring;" ∈ wsL_law := wb_t1 142 rfl rfl
set_option maxRecDepth 4000 in
theorem q_38 : Cond.classLink RX11 47 RX5 ∈ wsL_law := wb_t1 159 rfl rfl
set_option maxRecDepth 4000 in
theorem q_39 : Cond.instantiable RX5 13 ∈ wsL_law := wb_t1 73 rfl rfl
set_option maxRecDepth 4000 in
theorem q_40 : Cond.initialized RX5 ∈ wsL_law := wb_t1 8 rfl rfl
set_option maxRecDepth 4000 in
theorem q_41 : Cond.fieldLink RX11 53 "RingShepherds" "course" "LRingShepherds$Course;" ∈ wsL_law := wb_t2 21 rfl rfl
set_option maxRecDepth 4000 in
theorem q_42 : Cond.classLink RX11 57 RX9 ∈ wsL_law := wb_t1 212 rfl rfl
set_option maxRecDepth 4000 in
theorem q_43 : Cond.instantiable RX9 5 ∈ wsL_law := wb_t1 213 rfl rfl
set_option maxRecDepth 4000 in
theorem q_44 : Cond.initialized RX9 ∈ wsL_law := wb_t1 12 rfl rfl
set_option maxRecDepth 4000 in
theorem q_45 : Cond.fieldLink RX11 60 "RingShepherds" "text" "LRingShepherds$Text;" ∈ wsL_law := wb_t2 22 rfl rfl
set_option maxRecDepth 4000 in
theorem q_46 : Cond.classLink RX11 64 RX4 ∈ wsL_law := wb_t2 1 rfl rfl
set_option maxRecDepth 4000 in
theorem q_47 : Cond.instantiable RX4 3 ∈ wsL_law := wb_t2 2 rfl rfl
set_option maxRecDepth 4000 in
theorem q_48 : Cond.initialized RX4 ∈ wsL_law := wb_t1 13 rfl rfl
set_option maxRecDepth 4000 in
theorem q_49 : Cond.fieldLink RX11 69 "RingShepherds" "reader" "LRingShepherds$Reader;" ∈ wsL_law := wb_t2 23 rfl rfl
set_option maxRecDepth 4000 in
theorem q_50 : Cond.arrayClass .int ∈ wsL_law := wb_t1 139 rfl rfl
set_option maxRecDepth 4000 in
theorem q_51 : Cond.fieldLink RX11 73 "RingShepherds" "refused" "[I" ∈ wsL_law := wb_t2 24 rfl rfl
set_option maxRecDepth 4000 in
theorem q_52 : Cond.fieldLink RX11 77 "RingShepherds" "above" "J" ∈ wsL_law := wb_t2 25 rfl rfl
set_option maxRecDepth 4000 in
theorem q_53 : Cond.fieldLink RX11 81 "RingShepherds" "below" "J" ∈ wsL_law := wb_t2 26 rfl rfl
set_option maxRecDepth 4000 in
theorem q_54 : Cond.methodLink RX11 9 yX3_init ∈ wsL_law := wb_t1 33 rfl rfl
set_option maxRecDepth 4000 in
theorem q_55 : Cond.instanceMethod yX3_init ∈ wsL_law := wb_t1 34 rfl rfl
set_option maxRecDepth 4000 in
theorem q_56 : Cond.code yX3_init cX3_init 1 none ∈ wsL_law := wb_t1 35 rfl rfl
set_option maxRecDepth 4000 in
theorem q_57 : Cond.methodLink RX3 1 objectInit ∈ wsL_law := wb_t1 36 rfl rfl
set_option maxRecDepth 4000 in
theorem q_58 : Cond.methodLink RX11 12 yX10_init ∈ wsL_law := wb_t1 40 rfl rfl
set_option maxRecDepth 4000 in
theorem q_59 : Cond.instanceMethod yX10_init ∈ wsL_law := wb_t1 41 rfl rfl
set_option maxRecDepth 4000 in
theorem q_60 : Cond.code yX10_init cX10_init 1 none ∈ wsL_law := wb_t1 42 rfl rfl
set_option maxRecDepth 4000 in
theorem q_61 : Cond.methodLink RX10 1 yX3_init ∈ wsL_law := wb_t1 43 rfl rfl
set_option maxRecDepth 4000 in
theorem q_62 : Cond.methodLink RX11 15 yX1_init ∈ wsL_law := wb_t1 47 rfl rfl
set_option maxRecDepth 4000 in
theorem q_63 : Cond.instanceMethod yX1_init ∈ wsL_law := wb_t1 48 rfl rfl
set_option maxRecDepth 4000 in
theorem q_64 : Cond.code yX1_init cX1_init 1 none ∈ wsL_law := wb_t1 49 rfl rfl
set_option maxRecDepth 4000 in
theorem q_65 : Cond.methodLink RX1 1 yX3_init ∈ wsL_law := wb_t1 50 rfl rfl
set_option maxRecDepth 4000 in
theorem q_66 : Cond.methodLink RX11 18 yX8_init ∈ wsL_law := wb_t1 54 rfl rfl
set_option maxRecDepth 4000 in
theorem q_67 : Cond.instanceMethod yX8_init ∈ wsL_law := wb_t1 55 rfl rfl
set_option maxRecDepth 4000 in
theorem q_68 : Cond.code yX8_init cX8_init 1 none ∈ wsL_law := wb_t1 56 rfl rfl
set_option maxRecDepth 4000 in
theorem q_69 : Cond.methodLink RX8 1 yX10_init ∈ wsL_law := wb_t1 57 rfl rfl
set_option maxRecDepth 4000 in
theorem q_70 : Cond.methodLink RX11 21 yX6_init ∈ wsL_law := wb_t1 61 rfl rfl
set_option maxRecDepth 4000 in
theorem q_71 : Cond.instanceMethod yX6_init ∈ wsL_law := wb_t1 62 rfl rfl
set_option maxRecDepth 4000 in
theorem q_72 : Cond.code yX6_init cX6_init 1 none ∈ wsL_law := wb_t1 63 rfl rfl
set_option maxRecDepth 4000 in
theorem q_73 : Cond.methodLink RX6 1 yX3_init ∈ wsL_law := wb_t1 64 rfl rfl
set_option maxRecDepth 4000 in
theorem q_74 : Cond.methodLink RX11 24 yX7_init ∈ wsL_law := wb_t1 68 rfl rfl
set_option maxRecDepth 4000 in
theorem q_75 : Cond.instanceMethod yX7_init ∈ wsL_law := wb_t1 69 rfl rfl
set_option maxRecDepth 4000 in
theorem q_76 : Cond.code yX7_init cX7_init 3 none ∈ wsL_law := wb_t1 70 rfl rfl
set_option maxRecDepth 4000 in
theorem q_77 : Cond.methodLink RX7 3 objectInit ∈ wsL_law := wb_t1 71 rfl rfl
set_option maxRecDepth 4000 in
theorem q_78 : Cond.classLink RX7 9 RX5 ∈ wsL_law := wb_t1 72 rfl rfl
set_option maxRecDepth 4000 in
theorem q_79 : Cond.fieldLink RX7 14 "RingShepherds$Story" "ring" "LRingShepherds$Ring;" ∈ wsL_law := wb_t1 141 rfl rfl
set_option maxRecDepth 4000 in
theorem q_80 : Cond.fieldLink RX7 20 "RingShepherds$Story" "pasts" "[LRingShepherds$Ring;" ∈ wsL_law := wb_t1 143 rfl rfl
set_option maxRecDepth 4000 in
theorem q_81 : Cond.fieldLink RX7 24 "RingShepherds$Story" "newest" "I" ∈ wsL_law := wb_t1 144 rfl rfl
set_option maxRecDepth 4000 in
theorem q_82 : Cond.fieldLink RX7 28 "RingShepherds$Story" "undoable" "I" ∈ wsL_law := wb_t1 145 rfl rfl
set_option maxRecDepth 4000 in
theorem q_83 : Cond.methodLink RX7 11 yX5_init ∈ wsL_law := wb_t1 74 rfl rfl
set_option maxRecDepth 4000 in
theorem q_84 : Cond.instanceMethod yX5_init ∈ wsL_law := wb_t1 75 rfl rfl
set_option maxRecDepth 4000 in
theorem q_85 : Cond.code yX5_init cX5_init 2 none ∈ wsL_law := wb_t1 76 rfl rfl
set_option maxRecDepth 4000 in
theorem q_86 : Cond.methodLink RX5 3 objectInit ∈ wsL_law := wb_t1 77 rfl rfl
set_option maxRecDepth 4000 in
theorem q_87 : Cond.fieldLink RX5 9 "RingShepherds$Ring" "kinds" "[LRingShepherds$Plain;" ∈ wsL_law := wb_t1 85 rfl rfl
set_option maxRecDepth 4000 in
theorem q_88 : Cond.fieldLink RX5 15 "RingShepherds$Ring" "steps" "[I" ∈ wsL_law := wb_t1 86 rfl rfl
set_option maxRecDepth 4000 in
theorem q_89 : Cond.fieldLink RX5 19 "RingShepherds$Ring" "counts" "[I" ∈ wsL_law := wb_t1 90 rfl rfl
set_option maxRecDepth 4000 in
theorem q_90 : Cond.fieldLink RX5 22 "RingShepherds$Ring" "seats" "[I" ∈ wsL_law := wb_t1 93 rfl rfl
set_option maxRecDepth 4000 in
theorem q_91 : Cond.fieldLink RX5 25 "RingShepherds$Ring" "turned" "[I" ∈ wsL_law := wb_t1 94 rfl rfl
set_option maxRecDepth 4000 in
theorem q_92 : Cond.fieldLink RX5 28 "RingShepherds$Ring" "kindOf" "[I" ∈ wsL_law := wb_t1 95 rfl rfl
set_option maxRecDepth 4000 in
theorem q_93 : Cond.fieldLink RX5 31 "RingShepherds$Ring" "edgeOf" "[I" ∈ wsL_law := wb_t1 96 rfl rfl
set_option maxRecDepth 4000 in
theorem q_94 : Cond.fieldLink RX5 34 "RingShepherds$Ring" "placeOf" "[I" ∈ wsL_law := wb_t1 97 rfl rfl
set_option maxRecDepth 4000 in
theorem q_95 : Cond.fieldLink RX5 37 "RingShepherds$Ring" "stepOf" "[I" ∈ wsL_law := wb_t1 98 rfl rfl
set_option maxRecDepth 4000 in
theorem q_96 : Cond.methodLink RX5 40 yX5_begin ∈ wsL_law := wb_t1 78 rfl rfl
set_option maxRecDepth 4000 in
theorem q_97 : Cond.instanceMethod yX5_begin ∈ wsL_law := wb_t1 79 rfl rfl
set_option maxRecDepth 4000 in
theorem q_98 : Cond.selects RX5 yX5_begin yX5_begin ∈ wsL_law := wb_t1 80 rfl rfl
set_option maxRecDepth 4000 in
theorem q_99 : Cond.code yX5_begin cX5_begin 3 none ∈ wsL_law := wb_t1 81 rfl rfl
set_option maxRecDepth 4000 in
theorem q_100 : Cond.fieldLink RX5 44 "RingShepherds$Ring" "places" "I" ∈ wsL_law := wb_t1 99 rfl rfl
set_option maxRecDepth 4000 in
theorem q_101 : Cond.fieldLink RX5 48 "RingShepherds$Ring" "moons" "I" ∈ wsL_law := wb_t1 103 rfl rfl
set_option maxRecDepth 4000 in
theorem q_102 : Cond.fieldLink RX5 51 "RingShepherds$Ring" "rounds" "I" ∈ wsL_law := wb_t1 108 rfl rfl
set_option maxRecDepth 4000 in
theorem q_103 : Cond.fieldLink RX5 54 "RingShepherds$Ring" "strays" "I" ∈ wsL_law := wb_t1 110 rfl rfl
set_option maxRecDepth 4000 in
theorem q_104 : Cond.methodLink RX5 57 yJ7_fill_53178 ∈ wsL_law := wb_t1 82 rfl rfl
set_option maxRecDepth 4000 in
theorem q_105 : Cond.static yJ7_fill_53178 ∈ wsL_law := wb_t1 83 rfl rfl
set_option maxRecDepth 4000 in
theorem q_106 : Cond.initialized RJ7 ∈ wsL_law := wb_t1 9 rfl rfl
set_option maxRecDepth 4000 in
theorem q_107 : Cond.code yJ7_fill_53178 cJ7_fill_53178 4 none ∈ wsL_law := wb_t1 84 rfl rfl
set_option maxRecDepth 4000 in
theorem q_108 : Cond.methodLink RX11 49 yX5_init ∈ wsL_law := wb_t1 160 rfl rfl
set_option maxRecDepth 4000 in
theorem q_109 : Cond.methodLink RX11 50 yX0_init ∈ wsL_law := wb_t1 161 rfl rfl
set_option maxRecDepth 4000 in
theorem q_110 : Cond.instanceMethod yX0_init ∈ wsL_law := wb_t1 162 rfl rfl
set_option maxRecDepth 4000 in
theorem q_111 : Cond.code yX0_init cX0_init 3 none ∈ wsL_law := wb_t1 163 rfl rfl
set_option maxRecDepth 4000 in
theorem q_112 : Cond.methodLink RX0 3 objectInit ∈ wsL_law := wb_t1 164 rfl rfl
set_option maxRecDepth 4000 in
theorem q_113 : Cond.fieldLink RX0 9 "RingShepherds$Course" "ring" "LRingShepherds$Ring;" ∈ wsL_law := wb_t1 187 rfl rfl
set_option maxRecDepth 4000 in
theorem q_114 : Cond.fieldLink RX0 15 "RingShepherds$Course" "trial" "LRingShepherds$Ring;" ∈ wsL_law := wb_t1 188 rfl rfl
set_option maxRecDepth 4000 in
theorem q_115 : Cond.classLink RX0 18 RX2 ∈ wsL_law := wb_t1 165 rfl rfl
set_option maxRecDepth 4000 in
theorem q_116 : Cond.instantiable RX2 3 ∈ wsL_law := wb_t1 166 rfl rfl
set_option maxRecDepth 4000 in
theorem q_117 : Cond.initialized RX2 ∈ wsL_law := wb_t1 11 rfl rfl
set_option maxRecDepth 4000 in
theorem q_118 : Cond.fieldLink RX0 21 "RingShepherds$Course" "lump" "LRingShepherds$Lump;" ∈ wsL_law := wb_t1 189 rfl rfl
set_option maxRecDepth 4000 in
theorem q_119 : Cond.fieldLink RX0 25 "RingShepherds$Course" "sums" "[I" ∈ wsL_law := wb_t1 190 rfl rfl
set_option maxRecDepth 4000 in
theorem q_120 : Cond.fieldLink RX0 29 "RingShepherds$Course" "cost" "[I" ∈ wsL_law := wb_t1 191 rfl rfl
set_option maxRecDepth 4000 in
theorem q_121 : Cond.fieldLink RX0 32 "RingShepherds$Course" "costLeft" "[I" ∈ wsL_law := wb_t1 192 rfl rfl
set_option maxRecDepth 4000 in
theorem q_122 : Cond.fieldLink RX0 35 "RingShepherds$Course" "takenFrom" "[I" ∈ wsL_law := wb_t1 193 rfl rfl
set_option maxRecDepth 4000 in
theorem q_123 : Cond.fieldLink RX0 38 "RingShepherds$Course" "lossOf" "[I" ∈ wsL_law := wb_t1 194 rfl rfl
set_option maxRecDepth 4000 in
theorem q_124 : Cond.methodLink RX0 20 yX2_init ∈ wsL_law := wb_t1 167 rfl rfl
set_option maxRecDepth 4000 in
theorem q_125 : Cond.instanceMethod yX2_init ∈ wsL_law := wb_t1 168 rfl rfl
set_option maxRecDepth 4000 in
theorem q_126 : Cond.code yX2_init cX2_init 1 none ∈ wsL_law := wb_t1 169 rfl rfl
set_option maxRecDepth 4000 in
theorem q_127 : Cond.methodLink RX2 1 objectInit ∈ wsL_law := wb_t1 170 rfl rfl
set_option maxRecDepth 4000 in
theorem q_128 : Cond.methodLink RX11 59 yX9_init ∈ wsL_law := wb_t1 214 rfl rfl
set_option maxRecDepth 4000 in
theorem q_129 : Cond.instanceMethod yX9_init ∈ wsL_law := wb_t1 215 rfl rfl
set_option maxRecDepth 4000 in
theorem q_130 : Cond.code yX9_init cX9_init 1 none ∈ wsL_law := wb_t1 216 rfl rfl
set_option maxRecDepth 4000 in
theorem q_131 : Cond.methodLink RX9 3 objectInit ∈ wsL_law := wb_t1 217 rfl rfl
set_option maxRecDepth 4000 in
theorem q_132 : Cond.fieldLink RX9 9 "RingShepherds$Text" "bytes" "[I" ∈ wsL_law := wb_t1 222 rfl rfl
set_option maxRecDepth 4000 in
theorem q_133 : Cond.fieldLink RX9 15 "RingShepherds$Text" "size" "I" ∈ wsL_law := wb_t1 223 rfl rfl
set_option maxRecDepth 4000 in
theorem q_134 : Cond.methodLink RX9 19 yX9_rewind ∈ wsL_law := wb_t1 218 rfl rfl
set_option maxRecDepth 4000 in
theorem q_135 : Cond.instanceMethod yX9_rewind ∈ wsL_law := wb_t1 219 rfl rfl
set_option maxRecDepth 4000 in
theorem q_136 : Cond.selects RX9 yX9_rewind yX9_rewind ∈ wsL_law := wb_t1 220 rfl rfl
set_option maxRecDepth 4000 in
theorem q_137 : Cond.code yX9_rewind cX9_rewind 1 none ∈ wsL_law := wb_t1 221 rfl rfl
set_option maxRecDepth 4000 in
theorem q_138 : Cond.fieldLink RX9 24 "RingShepherds$Text" "token" "I" ∈ wsL_law := wb_t1 226 rfl rfl
set_option maxRecDepth 4000 in
theorem q_139 : Cond.fieldLink RX9 27 "RingShepherds$Text" "start" "I" ∈ wsL_law := wb_t1 228 rfl rfl
set_option maxRecDepth 4000 in
theorem q_140 : Cond.fieldLink RX9 30 "RingShepherds$Text" "end" "I" ∈ wsL_law := wb_t1 229 rfl rfl
set_option maxRecDepth 4000 in
theorem q_141 : Cond.methodLink RX11 66 yX4_init ∈ wsL_law := wb_t2 3 rfl rfl
set_option maxRecDepth 4000 in
theorem q_142 : Cond.instanceMethod yX4_init ∈ wsL_law := wb_t2 4 rfl rfl
set_option maxRecDepth 4000 in
theorem q_143 : Cond.code yX4_init cX4_init 3 none ∈ wsL_law := wb_t2 5 rfl rfl
set_option maxRecDepth 4000 in
theorem q_144 : Cond.methodLink RX4 3 objectInit ∈ wsL_law := wb_t2 6 rfl rfl
set_option maxRecDepth 4000 in
theorem q_145 : Cond.fieldLink RX4 9 "RingShepherds$Reader" "text" "LRingShepherds$Text;" ∈ wsL_law := wb_t2 7 rfl rfl
set_option maxRecDepth 4000 in
theorem q_146 : Cond.fieldLink RX4 15 "RingShepherds$Reader" "draft" "LRingShepherds$Ring;" ∈ wsL_law := wb_t2 8 rfl rfl
set_option maxRecDepth 4000 in
theorem q_147 : Cond.fieldLink RX4 19 "RingShepherds$Reader" "numbers" "[I" ∈ wsL_law := wb_t2 10 rfl rfl
set_option maxRecDepth 4000 in
theorem q_148 : Cond.methodLink RL 12 yX12_init ∈ wsL_law := wb_t4 85 rfl rfl
set_option maxRecDepth 4000 in
theorem q_149 : Cond.instanceMethod yX12_init ∈ wsL_law := wb_t4 86 rfl rfl
set_option maxRecDepth 4000 in
theorem q_150 : Cond.code yX12_init cX12_init 1 none ∈ wsL_law := wb_t4 87 rfl rfl
set_option maxRecDepth 4000 in
theorem q_151 : Cond.methodLink RX12 1 objectInit ∈ wsL_law := wb_t4 88 rfl rfl
set_option maxRecDepth 4000 in
theorem q_152 : Cond.fieldLink RX12 7 "RingShepherdsModel" "now" "[I" ∈ wsL_law := wb_t4 92 rfl rfl
set_option maxRecDepth 4000 in
theorem q_153 : Cond.fieldLink RX12 13 "RingShepherdsModel" "kept" "[I" ∈ wsL_law := wb_t4 93 rfl rfl
set_option maxRecDepth 4000 in
theorem q_154 : Cond.fieldLink RX12 16 "RingShepherdsModel" "isKept" "[Z" ∈ wsL_law := wb_t4 94 rfl rfl
set_option maxRecDepth 4000 in
theorem q_155 : Cond.fieldLink RX12 20 "RingShepherdsModel" "refused" "[I" ∈ wsL_law := wb_t4 95 rfl rfl
set_option maxRecDepth 4000 in
theorem q_156 : Cond.fieldLink RX12 23 "RingShepherdsModel" "below" "J" ∈ wsL_law := wb_t4 97 rfl rfl
set_option maxRecDepth 4000 in
theorem q_157 : Cond.fieldLink RX12 27 "RingShepherdsModel" "hand" "[I" ∈ wsL_law := wb_t4 98 rfl rfl
set_option maxRecDepth 4000 in
theorem q_158 : Cond.fieldLink RX12 30 "RingShepherdsModel" "then" "[I" ∈ wsL_law := wb_t4 99 rfl rfl
set_option maxRecDepth 4000 in
theorem q_159 : Cond.fieldLink RX12 33 "RingShepherdsModel" "moonAt" "[I" ∈ wsL_law := wb_t4 100 rfl rfl
set_option maxRecDepth 4000 in
theorem q_160 : Cond.fieldLink RX12 36 "RingShepherdsModel" "need" "[I" ∈ wsL_law := wb_t4 106 rfl rfl
set_option maxRecDepth 4000 in
theorem q_161 : Cond.fieldLink RX12 39 "RingShepherdsModel" "lanesThen" "[I" ∈ wsL_law := wb_t4 107 rfl rfl
set_option maxRecDepth 4000 in
theorem q_162 : Cond.fieldLink RX12 42 "RingShepherdsModel" "ahead" "[I" ∈ wsL_law := wb_t4 108 rfl rfl
set_option maxRecDepth 4000 in
theorem q_163 : Cond.fieldLink RX12 45 "RingShepherdsModel" "bytes" "[I" ∈ wsL_law := wb_t4 109 rfl rfl
set_option maxRecDepth 4000 in
theorem q_164 : Cond.fieldLink RX12 48 "RingShepherdsModel" "next" "[I" ∈ wsL_law := wb_t4 115 rfl rfl
set_option maxRecDepth 4000 in
theorem q_165 : Cond.fieldLink RX12 51 "RingShepherdsModel" "values" "[I" ∈ wsL_law := wb_t4 116 rfl rfl
set_option maxRecDepth 4000 in
theorem q_166 : Cond.methodLink RX12 54 yX12_begin ∈ wsL_law := wb_t4 89 rfl rfl
set_option maxRecDepth 4000 in
theorem q_167 : Cond.static yX12_begin ∈ wsL_law := wb_t4 90 rfl rfl
set_option maxRecDepth 4000 in
theorem q_168 : Cond.code yX12_begin cX12_begin 3 none ∈ wsL_law := wb_t4 91 rfl rfl
set_option maxRecDepth 4000 in
theorem q_169 : Cond.methodLink RL 13 yX11_ring ∈ wsL_law := wb_t2 46 rfl rfl
set_option maxRecDepth 4000 in
theorem q_170 : Cond.instanceMethod yX11_ring ∈ wsL_law := wb_t2 47 rfl rfl
set_option maxRecDepth 4000 in
theorem q_171 : Cond.selects RX11 yX11_ring yX11_ring ∈ wsL_law := wb_t2 48 rfl rfl
set_option maxRecDepth 4000 in
theorem q_172 : Cond.code yX11_ring cX11_ring 3 (some .int) ∈ wsL_law := wb_t2 49 rfl rfl
set_option maxRecDepth 4000 in
theorem q_173 : Cond.fieldLink RX11 92 "RingShepherds$Ring" "places" "I" ∈ wsL_law := wb_t1 100 rfl rfl
set_option maxRecDepth 4000 in
theorem q_174 : Cond.methodLink RX11 84 yX11_isWithin ∈ wsL_law := wb_t2 50 rfl rfl
set_option maxRecDepth 4000 in
theorem q_175 : Cond.static yX11_isWithin ∈ wsL_law := wb_t2 51 rfl rfl
set_option maxRecDepth 4000 in
theorem q_176 : Cond.code yX11_isWithin cX11_isWithin 3 (some .boolean) ∈ wsL_law := wb_t2 52 rfl rfl
set_option maxRecDepth 4000 in
theorem q_177 : Cond.methodLink RX11 88 yX11_refuse ∈ wsL_law := wb_t2 53 rfl rfl
set_option maxRecDepth 4000 in
theorem q_178 : Cond.instanceMethod yX11_refuse ∈ wsL_law := wb_t2 55 rfl rfl
theorem q_179 : Cond.selects RX11 yX11_refuse yX11_refuse ∈ wsL_law := wb_p1 (q := (⟨"RingShepherds", "refuse", "(II)I"⟩, 9)) 0 rfl rfl rfl
set_option maxRecDepth 4000 in
theorem q_180 : Cond.code yX11_refuse cX11_refuse 3 (some .int) ∈ wsL_law := wb_t2 56 rfl rfl
set_option maxRecDepth 4000 in
theorem q_181 : Cond.methodLink RX11 96 yX5_begin ∈ wsL_law := wb_t2 57 rfl rfl
set_option maxRecDepth 4000 in
theorem q_182 : Cond.methodLink RX11 100 yX7_forget ∈ wsL_law := wb_t2 58 rfl rfl
set_option maxRecDepth 4000 in
theorem q_183 : Cond.instanceMethod yX7_forget ∈ wsL_law := wb_t2 59 rfl rfl
set_option maxRecDepth 4000 in
theorem q_184 : Cond.selects RX7 yX7_forget yX7_forget ∈ wsL_law := wb_t2 60 rfl rfl
set_option maxRecDepth 4000 in
theorem q_185 : Cond.code yX7_forget cX7_forget 1 none ∈ wsL_law := wb_t2 61 rfl rfl
set_option maxRecDepth 4000 in
theorem q_186 : Cond.methodLink RL 17 yX12_ring ∈ wsL_law := wb_t4 168 rfl rfl
set_option maxRecDepth 4000 in
theorem q_187 : Cond.instanceMethod yX12_ring ∈ wsL_law := wb_t4 169 rfl rfl
set_option maxRecDepth 4000 in
theorem q_188 : Cond.selects RX12 yX12_ring yX12_ring ∈ wsL_law := wb_t4 170 rfl rfl
set_option maxRecDepth 4000 in
theorem q_189 : Cond.code yX12_ring cX12_ring 3 (some .int) ∈ wsL_law := wb_t4 171 rfl rfl
set_option maxRecDepth 4000 in
theorem q_190 : Cond.constantLong RX12 58 (4) ∈ wsL_law := wb_t4 172 rfl rfl
set_option maxRecDepth 4000 in
theorem q_191 : Cond.constantLong RX12 71 (24) ∈ wsL_law := wb_t4 173 rfl rfl
set_option maxRecDepth 4000 in
theorem q_192 : Cond.methodLink RX12 60 yX12_in ∈ wsL_law := wb_t4 174 rfl rfl
set_option maxRecDepth 4000 in
theorem q_193 : Cond.static yX12_in ∈ wsL_law := wb_t4 175 rfl rfl
set_option maxRecDepth 4000 in
theorem q_194 : Cond.code yX12_in cX12_in 6 (some .boolean) ∈ wsL_law := wb_t4 176 rfl rfl
set_option maxRecDepth 4000 in
theorem q_195 : Cond.methodLink RX12 73 yX12_bad ∈ wsL_law := wb_t4 177 rfl rfl
set_option maxRecDepth 4000 in
theorem q_196 : Cond.instanceMethod yX12_bad ∈ wsL_law := wb_t4 179 rfl rfl
theorem q_197 : Cond.selects RX12 yX12_bad yX12_bad ∈ wsL_law := wb_p2 (q := (⟨"RingShepherdsModel", "bad", "(I)I"⟩, 25)) 6 rfl rfl rfl
set_option maxRecDepth 4000 in
theorem q_198 : Cond.code yX12_bad cX12_bad 2 (some .int) ∈ wsL_law := wb_t4 180 rfl rfl
set_option maxRecDepth 4000 in
theorem q_199 : Cond.methodLink RX12 64 yX12_places ∈ wsL_law := wb_t4 181 rfl rfl
set_option maxRecDepth 4000 in
theorem q_200 : Cond.instanceMethod yX12_places ∈ wsL_law := wb_t4 183 rfl rfl
theorem q_201 : Cond.selects RX12 yX12_places yX12_places ∈ wsL_law := wb_p2 (q := (⟨"RingShepherdsModel", "places", "()I"⟩, 25)) 7 rfl rfl rfl
set_option maxRecDepth 4000 in
theorem q_202 : Cond.code yX12_places cX12_places 1 (some .int) ∈ wsL_law := wb_t4 184 rfl rfl
set_option maxRecDepth 4000 in
theorem q_203 : Cond.methodLink RL 18 yX11_step ∈ wsL_law := wb_t2 62 rfl rfl
set_option maxRecDepth 4000 in
theorem q_204 : Cond.instanceMethod yX11_step ∈ wsL_law := wb_t2 63 rfl rfl
set_option maxRecDepth 4000 in
theorem q_205 : Cond.selects RX11 yX11_step yX11_step ∈ wsL_law := wb_t2 64 rfl rfl
set_option maxRecDepth 4000 in
theorem q_206 : Cond.code yX11_step cX11_step 4 (some .int) ∈ wsL_law := wb_t2 65 rfl rfl
set_option maxRecDepth 4000 in
theorem q_207 : Cond.fieldLink RX11 107 "RingShepherds$Ring" "steps" "[I" ∈ wsL_law := wb_t1 87 rfl rfl
set_option maxRecDepth 4000 in
theorem q_208 : Cond.methodLink RX11 103 yX11_isLane ∈ wsL_law := wb_t2 66 rfl rfl
set_option maxRecDepth 4000 in
theorem q_209 : Cond.static yX11_isLane ∈ wsL_law := wb_t2 67 rfl rfl
set_option maxRecDepth 4000 in
theorem q_210 : Cond.code yX11_isLane cX11_isLane 1 (some .boolean) ∈ wsL_law := wb_t2 68 rfl rfl
set_option maxRecDepth 4000 in
theorem q_211 : Cond.methodLink RL 22 yX12_step ∈ wsL_law := wb_t4 185 rfl rfl
set_option maxRecDepth 4000 in
theorem q_212 : Cond.instanceMethod yX12_step ∈ wsL_law := wb_t4 186 rfl rfl
set_option maxRecDepth 4000 in
theorem q_213 : Cond.selects RX12 yX12_step yX12_step ∈ wsL_law := wb_t4 187 rfl rfl
set_option maxRecDepth 4000 in
theorem q_214 : Cond.code yX12_step cX12_step 4 (some .int) ∈ wsL_law := wb_t4 188 rfl rfl
set_option maxRecDepth 4000 in
theorem q_215 : Cond.constantLong RX12 81 (9) ∈ wsL_law := wb_t4 192 rfl rfl
set_option maxRecDepth 4000 in
theorem q_216 : Cond.methodLink RX12 77 yX12_isLane ∈ wsL_law := wb_t4 189 rfl rfl
set_option maxRecDepth 4000 in
theorem q_217 : Cond.static yX12_isLane ∈ wsL_law := wb_t4 190 rfl rfl
set_option maxRecDepth 4000 in
theorem q_218 : Cond.code yX12_isLane cX12_isLane 1 (some .boolean) ∈ wsL_law := wb_t4 191 rfl rfl
set_option maxRecDepth 4000 in
theorem q_219 : Cond.methodLink RL 23 yX11_lumps ∈ wsL_law := wb_t2 69 rfl rfl
set_option maxRecDepth 4000 in
theorem q_220 : Cond.instanceMethod yX11_lumps ∈ wsL_law := wb_t2 70 rfl rfl
set_option maxRecDepth 4000 in
theorem q_221 : Cond.selects RX11 yX11_lumps yX11_lumps ∈ wsL_law := wb_t2 71 rfl rfl
set_option maxRecDepth 4000 in
theorem q_222 : Cond.code yX11_lumps cX11_lumps 5 (some .int) ∈ wsL_law := wb_t2 72 rfl rfl
set_option maxRecDepth 4000 in
theorem q_223 : Cond.methodLink RX11 110 yX11_isPlace ∈ wsL_law := wb_t2 73 rfl rfl
set_option maxRecDepth 4000 in
theorem q_224 : Cond.instanceMethod yX11_isPlace ∈ wsL_law := wb_t2 75 rfl rfl
theorem q_225 : Cond.selects RX11 yX11_isPlace yX11_isPlace ∈ wsL_law := wb_p1 (q := (⟨"RingShepherds", "isPlace", "(I)Z"⟩, 9)) 1 rfl rfl rfl
set_option maxRecDepth 4000 in
theorem q_226 : Cond.code yX11_isPlace cX11_isPlace 2 (some .boolean) ∈ wsL_law := wb_t2 76 rfl rfl
set_option maxRecDepth 4000 in
theorem q_227 : Cond.methodLink RX11 113 yX5_lumpsAt ∈ wsL_law := wb_t2 77 rfl rfl
set_option maxRecDepth 4000 in
theorem q_228 : Cond.instanceMethod yX5_lumpsAt ∈ wsL_law := wb_t2 78 rfl rfl
set_option maxRecDepth 4000 in
theorem q_229 : Cond.selects RX5 yX5_lumpsAt yX5_lumpsAt ∈ wsL_law := wb_t2 79 rfl rfl
set_option maxRecDepth 4000 in
theorem q_230 : Cond.code yX5_lumpsAt cX5_lumpsAt 3 (some .int) ∈ wsL_law := wb_t2 80 rfl rfl
set_option maxRecDepth 4000 in
theorem q_231 : Cond.methodLink RX5 73 yX5_seat ∈ wsL_law := wb_t2 81 rfl rfl
set_option maxRecDepth 4000 in
theorem q_232 : Cond.instanceMethod yX5_seat ∈ wsL_law := wb_t2 83 rfl rfl
theorem q_233 : Cond.selects RX5 yX5_seat yX5_seat ∈ wsL_law := wb_p1 (q := (⟨"RingShepherds$Ring", "seat", "(II)I"⟩, 13)) 2 rfl rfl rfl
set_option maxRecDepth 4000 in
theorem q_234 : Cond.code yX5_seat cX5_seat 4 (some .int) ∈ wsL_law := wb_t2 84 rfl rfl
set_option maxRecDepth 4000 in
theorem q_235 : Cond.methodLink RX11 116 yX5_setLumps ∈ wsL_law := wb_t2 85 rfl rfl
set_option maxRecDepth 4000 in
theorem q_236 : Cond.instanceMethod yX5_setLumps ∈ wsL_law := wb_t2 86 rfl rfl
set_option maxRecDepth 4000 in
theorem q_237 : Cond.selects RX5 yX5_setLumps yX5_setLumps ∈ wsL_law := wb_t2 87 rfl rfl
set_option maxRecDepth 4000 in
theorem q_238 : Cond.code yX5_setLumps cX5_setLumps 4 none ∈ wsL_law := wb_t2 88 rfl rfl
set_option maxRecDepth 4000 in
theorem q_239 : Cond.methodLink RL 27 yX12_lumps ∈ wsL_law := wb_t4 193 rfl rfl
set_option maxRecDepth 4000 in
theorem q_240 : Cond.instanceMethod yX12_lumps ∈ wsL_law := wb_t4 194 rfl rfl
set_option maxRecDepth 4000 in
theorem q_241 : Cond.selects RX12 yX12_lumps yX12_lumps ∈ wsL_law := wb_t4 195 rfl rfl
set_option maxRecDepth 4000 in
theorem q_242 : Cond.code yX12_lumps cX12_lumps 5 (some .int) ∈ wsL_law := wb_t4 196 rfl rfl
set_option maxRecDepth 4000 in
theorem q_243 : Cond.constantLong RX12 86 (999) ∈ wsL_law := wb_t4 201 rfl rfl
set_option maxRecDepth 4000 in
theorem q_244 : Cond.methodLink RX12 83 yX12_isPlace ∈ wsL_law := wb_t4 197 rfl rfl
set_option maxRecDepth 4000 in
theorem q_245 : Cond.instanceMethod yX12_isPlace ∈ wsL_law := wb_t4 199 rfl rfl
theorem q_246 : Cond.selects RX12 yX12_isPlace yX12_isPlace ∈ wsL_law := wb_p2 (q := (⟨"RingShepherdsModel", "isPlace", "(I)Z"⟩, 25)) 8 rfl rfl rfl
set_option maxRecDepth 4000 in
theorem q_247 : Cond.code yX12_isPlace cX12_isPlace 2 (some .boolean) ∈ wsL_law := wb_t4 200 rfl rfl
set_option maxRecDepth 4000 in
theorem q_248 : Cond.methodLink RL 28 yX11_moon ∈ wsL_law := wb_t2 89 rfl rfl
set_option maxRecDepth 4000 in
theorem q_249 : Cond.instanceMethod yX11_moon ∈ wsL_law := wb_t2 90 rfl rfl
set_option maxRecDepth 4000 in
theorem q_250 : Cond.selects RX11 yX11_moon yX11_moon ∈ wsL_law := wb_t2 91 rfl rfl
set_option maxRecDepth 4000 in
theorem q_251 : Cond.code yX11_moon cX11_moon 5 (some .int) ∈ wsL_law := wb_t2 92 rfl rfl
set_option maxRecDepth 4000 in
theorem q_252 : Cond.fieldLink RX11 120 "RingShepherds$Ring" "moons" "I" ∈ wsL_law := wb_t1 106 rfl rfl
set_option maxRecDepth 4000 in
theorem q_253 : Cond.methodLink RX11 123 yX5_addMoon ∈ wsL_law := wb_t2 93 rfl rfl
set_option maxRecDepth 4000 in
theorem q_254 : Cond.instanceMethod yX5_addMoon ∈ wsL_law := wb_t2 94 rfl rfl
set_option maxRecDepth 4000 in
theorem q_255 : Cond.selects RX5 yX5_addMoon yX5_addMoon ∈ wsL_law := wb_t2 95 rfl rfl
set_option maxRecDepth 4000 in
theorem q_256 : Cond.code yX5_addMoon cX5_addMoon 5 (some .int) ∈ wsL_law := wb_t2 96 rfl rfl
set_option maxRecDepth 4000 in
theorem q_257 : Cond.methodLink RL 32 yX12_moon ∈ wsL_law := wb_t4 202 rfl rfl
set_option maxRecDepth 4000 in
theorem q_258 : Cond.instanceMethod yX12_moon ∈ wsL_law := wb_t4 203 rfl rfl
set_option maxRecDepth 4000 in
theorem q_259 : Cond.selects RX12 yX12_moon yX12_moon ∈ wsL_law := wb_t4 204 rfl rfl
set_option maxRecDepth 4000 in
theorem q_260 : Cond.code yX12_moon cX12_moon 5 (some .int) ∈ wsL_law := wb_t4 205 rfl rfl
set_option maxRecDepth 4000 in
theorem q_261 : Cond.constantLong RX12 88 (5) ∈ wsL_law := wb_t4 206 rfl rfl
set_option maxRecDepth 4000 in
theorem q_262 : Cond.methodLink RX12 68 yX12_moons ∈ wsL_law := wb_t4 207 rfl rfl
set_option maxRecDepth 4000 in
theorem q_263 : Cond.instanceMethod yX12_moons ∈ wsL_law := wb_t4 209 rfl rfl
theorem q_264 : Cond.selects RX12 yX12_moons yX12_moons ∈ wsL_law := wb_p2 (q := (⟨"RingShepherdsModel", "moons", "()I"⟩, 25)) 9 rfl rfl rfl
set_option maxRecDepth 4000 in
theorem q_265 : Cond.code yX12_moons cX12_moons 1 (some .int) ∈ wsL_law := wb_t4 210 rfl rfl
set_option maxRecDepth 4000 in
theorem q_266 : Cond.methodLink RX12 90 yX12_full ∈ wsL_law := wb_t4 211 rfl rfl
set_option maxRecDepth 4000 in
theorem q_267 : Cond.instanceMethod yX12_full ∈ wsL_law := wb_t4 213 rfl rfl
theorem q_268 : Cond.selects RX12 yX12_full yX12_full ∈ wsL_law := wb_p2 (q := (⟨"RingShepherdsModel", "full", "()I"⟩, 25)) 10 rfl rfl rfl
set_option maxRecDepth 4000 in
theorem q_269 : Cond.code yX12_full cX12_full 1 (some .int) ∈ wsL_law := wb_t4 214 rfl rfl
set_option maxRecDepth 4000 in
theorem q_270 : Cond.methodLink RX12 93 yX12_layMoon ∈ wsL_law := wb_t4 215 rfl rfl
set_option maxRecDepth 4000 in
theorem q_271 : Cond.static yX12_layMoon ∈ wsL_law := wb_t4 216 rfl rfl
set_option maxRecDepth 4000 in
theorem q_272 : Cond.code yX12_layMoon cX12_layMoon 6 none ∈ wsL_law := wb_t4 217 rfl rfl
set_option maxRecDepth 4000 in
theorem q_273 : Cond.methodLink RL 35 yX11_type ∈ wsL_law := wb_t2 97 rfl rfl
set_option maxRecDepth 4000 in
theorem q_274 : Cond.instanceMethod yX11_type ∈ wsL_law := wb_t2 98 rfl rfl
set_option maxRecDepth 4000 in
theorem q_275 : Cond.selects RX11 yX11_type yX11_type ∈ wsL_law := wb_t2 99 rfl rfl
set_option maxRecDepth 4000 in
theorem q_276 : Cond.code yX11_type cX11_type 4 (some .int) ∈ wsL_law := wb_t2 100 rfl rfl
set_option maxRecDepth 4000 in
theorem q_277 : Cond.fieldLink RX11 127 "RingShepherds$Text" "size" "I" ∈ wsL_law := wb_t1 224 rfl rfl
set_option maxRecDepth 4000 in
theorem q_278 : Cond.methodLink RX11 130 yX9_add ∈ wsL_law := wb_t2 101 rfl rfl
set_option maxRecDepth 4000 in
theorem q_279 : Cond.instanceMethod yX9_add ∈ wsL_law := wb_t2 102 rfl rfl
set_option maxRecDepth 4000 in
theorem q_280 : Cond.selects RX9 yX9_add yX9_add ∈ wsL_law := wb_t2 103 rfl rfl
set_option maxRecDepth 4000 in
theorem q_281 : Cond.code yX9_add cX9_add 5 none ∈ wsL_law := wb_t2 104 rfl rfl
set_option maxRecDepth 4000 in
theorem q_282 : Cond.constantLong RX9 22 (255) ∈ wsL_law := wb_t2 105 rfl rfl
set_option maxRecDepth 4000 in
theorem q_283 : Cond.methodLink RL 39 yX12_type ∈ wsL_law := wb_t5 138 rfl rfl
set_option maxRecDepth 4000 in
theorem q_284 : Cond.instanceMethod yX12_type ∈ wsL_law := wb_t5 139 rfl rfl
set_option maxRecDepth 4000 in
theorem q_285 : Cond.selects RX12 yX12_type yX12_type ∈ wsL_law := wb_t5 140 rfl rfl
set_option maxRecDepth 4000 in
theorem q_286 : Cond.code yX12_type cX12_type 5 (some .int) ∈ wsL_law := wb_t5 141 rfl rfl
set_option maxRecDepth 4000 in
theorem q_287 : Cond.constantLong RX12 212 (8) ∈ wsL_law := wb_t5 142 rfl rfl
set_option maxRecDepth 4000 in
theorem q_288 : Cond.fieldLink RX12 214 "RingShepherdsModel" "bytesLong" "I" ∈ wsL_law := wb_t4 110 rfl rfl
set_option maxRecDepth 4000 in
theorem q_289 : Cond.constantLong RX12 217 (255) ∈ wsL_law := wb_t5 143 rfl rfl
set_option maxRecDepth 4000 in
theorem q_290 : Cond.methodLink RL 40 yX11_clear ∈ wsL_law := wb_t2 106 rfl rfl
set_option maxRecDepth 4000 in
theorem q_291 : Cond.instanceMethod yX11_clear ∈ wsL_law := wb_t2 107 rfl rfl
set_option maxRecDepth 4000 in
theorem q_292 : Cond.selects RX11 yX11_clear yX11_clear ∈ wsL_law := wb_t2 108 rfl rfl
set_option maxRecDepth 4000 in
theorem q_293 : Cond.code yX11_clear cX11_clear 2 (some .int) ∈ wsL_law := wb_t2 109 rfl rfl
set_option maxRecDepth 4000 in
theorem q_294 : Cond.methodLink RL 44 yX12_clear ∈ wsL_law := wb_t5 144 rfl rfl
set_option maxRecDepth 4000 in
theorem q_295 : Cond.instanceMethod yX12_clear ∈ wsL_law := wb_t5 145 rfl rfl
set_option maxRecDepth 4000 in
theorem q_296 : Cond.selects RX12 yX12_clear yX12_clear ∈ wsL_law := wb_t5 146 rfl rfl
set_option maxRecDepth 4000 in
theorem q_297 : Cond.code yX12_clear cX12_clear 2 (some .int) ∈ wsL_law := wb_t5 147 rfl rfl
set_option maxRecDepth 4000 in
theorem q_298 : Cond.methodLink RL 45 yX11_read ∈ wsL_law := wb_t2 110 rfl rfl
set_option maxRecDepth 4000 in
theorem q_299 : Cond.instanceMethod yX11_read ∈ wsL_law := wb_t2 111 rfl rfl
set_option maxRecDepth 4000 in
theorem q_300 : Cond.selects RX11 yX11_read yX11_read ∈ wsL_law := wb_t2 112 rfl rfl
set_option maxRecDepth 4000 in
theorem q_301 : Cond.code yX11_read cX11_read 2 (some .int) ∈ wsL_law := wb_t2 113 rfl rfl
set_option maxRecDepth 4000 in
theorem q_302 : Cond.fieldLink RX11 138 "RingShepherds$Reader" "draft" "LRingShepherds$Ring;" ∈ wsL_law := wb_t2 9 rfl rfl
set_option maxRecDepth 4000 in
theorem q_303 : Cond.methodLink RX11 134 yX4_readAll ∈ wsL_law := wb_t2 114 rfl rfl
set_option maxRecDepth 4000 in
theorem q_304 : Cond.instanceMethod yX4_readAll ∈ wsL_law := wb_t2 115 rfl rfl
set_option maxRecDepth 4000 in
theorem q_305 : Cond.selects RX4 yX4_readAll yX4_readAll ∈ wsL_law := wb_t2 116 rfl rfl
set_option maxRecDepth 4000 in
theorem q_306 : Cond.code yX4_readAll cX4_readAll 2 (some .int) ∈ wsL_law := wb_t2 117 rfl rfl
set_option maxRecDepth 4000 in
theorem q_307 : Cond.fieldLink RX4 35 "RingShepherds$Text" "start" "I" ∈ wsL_law := wb_t1 227 rfl rfl
set_option maxRecDepth 4000 in
theorem q_308 : Cond.fieldLink RX4 39 "RingShepherds$Text" "token" "I" ∈ wsL_law := wb_t1 225 rfl rfl
set_option maxRecDepth 4000 in
theorem q_309 : Cond.methodLink RX4 23 yX9_rewind ∈ wsL_law := wb_t2 118 rfl rfl
set_option maxRecDepth 4000 in
theorem q_310 : Cond.methodLink RX4 28 yX9_nextToken ∈ wsL_law := wb_t2 119 rfl rfl
set_option maxRecDepth 4000 in
theorem q_311 : Cond.instanceMethod yX9_nextToken ∈ wsL_law := wb_t2 120 rfl rfl
set_option maxRecDepth 4000 in
theorem q_312 : Cond.selects RX9 yX9_nextToken yX9_nextToken ∈ wsL_law := wb_t2 121 rfl rfl
set_option maxRecDepth 4000 in
theorem q_313 : Cond.code yX9_nextToken cX9_nextToken 1 none ∈ wsL_law := wb_t2 122 rfl rfl
set_option maxRecDepth 4000 in
theorem q_314 : Cond.methodLink RX9 33 yX9_begunBy ∈ wsL_law := wb_t2 123 rfl rfl
set_option maxRecDepth 4000 in
theorem q_315 : Cond.static yX9_begunBy ∈ wsL_law := wb_t2 124 rfl rfl
set_option maxRecDepth 4000 in
theorem q_316 : Cond.code yX9_begunBy cX9_begunBy 1 (some .int) ∈ wsL_law := wb_t2 125 rfl rfl
set_option maxRecDepth 4000 in
theorem q_317 : Cond.methodLink RX4 31 yX4_readRing ∈ wsL_law := wb_t2 126 rfl rfl
set_option maxRecDepth 4000 in
theorem q_318 : Cond.instanceMethod yX4_readRing ∈ wsL_law := wb_t2 128 rfl rfl
theorem q_319 : Cond.selects RX4 yX4_readRing yX4_readRing ∈ wsL_law := wb_p1 (q := (⟨"RingShepherds$Reader", "readRing", "()Z"⟩, 3)) 3 rfl rfl rfl
set_option maxRecDepth 4000 in
theorem q_320 : Cond.code yX4_readRing cX4_readRing 1 (some .boolean) ∈ wsL_law := wb_t2 129 rfl rfl
set_option maxRecDepth 4000 in
theorem q_321 : Cond.methodLink RX4 47 yX9_isWord ∈ wsL_law := wb_t2 131 rfl rfl
set_option maxRecDepth 4000 in
theorem q_322 : Cond.instanceMethod yX9_isWord ∈ wsL_law := wb_t2 132 rfl rfl
set_option maxRecDepth 4000 in
theorem q_323 : Cond.selects RX9 yX9_isWord yX9_isWord ∈ wsL_law := wb_t2 133 rfl rfl
set_option maxRecDepth 4000 in
theorem q_324 : Cond.code yX9_isWord cX9_isWord 3 (some .boolean) ∈ wsL_law := wb_t2 134 rfl rfl
set_option maxRecDepth 4000 in
theorem q_325 : Cond.methodLink RX9 37 yJ0_length_8abf5 ∈ wsL_law := wb_t2 135 rfl rfl
set_option maxRecDepth 4000 in
theorem q_326 : Cond.instanceMethod yJ0_length_8abf5 ∈ wsL_law := wb_t2 136 rfl rfl
set_option maxRecDepth 4000 in
theorem q_327 : Cond.selects RJ0 yJ0_length_8abf5 yJ0_length_8abf5 ∈ wsL_law := wb_t2 137 rfl rfl
set_option maxRecDepth 4000 in
theorem q_328 : Cond.initialized RJ0 ∈ wsL_law := wb_t1 15 rfl rfl
set_option maxRecDepth 4000 in
theorem q_329 : Cond.code yJ0_length_8abf5 cJ0_length_8abf5 1 (some .int) ∈ wsL_law := wb_t2 138 rfl rfl
set_option maxRecDepth 4000 in
theorem q_330 : Cond.fieldLink RJ0 9 "java/lang/String" "value" "[B" ∈ wsL_law := wb_t5 229 rfl rfl
set_option maxRecDepth 4000 in
theorem q_331 : Cond.methodLink RJ0 335 yJ0_coder_7d493 ∈ wsL_law := wb_t2 139 rfl rfl
set_option maxRecDepth 4000 in
theorem q_332 : Cond.instanceMethod yJ0_coder_7d493 ∈ wsL_law := wb_t2 140 rfl rfl
set_option maxRecDepth 4000 in
theorem q_333 : Cond.selects RJ0 yJ0_coder_7d493 yJ0_coder_7d493 ∈ wsL_law := wb_t2 141 rfl rfl
set_option maxRecDepth 4000 in
theorem q_334 : Cond.code yJ0_coder_7d493 cJ0_coder_7d493 1 (some .byte) ∈ wsL_law := wb_t2 142 rfl rfl
set_option maxRecDepth 4000 in
theorem q_335 : Cond.fieldLink RJ0 38 "java/lang/String" "COMPACT_STRINGS" "Z" ∈ wsL_law := wb_t2 143 rfl rfl
set_option maxRecDepth 4000 in
theorem q_336 : Cond.fieldLink RJ0 15 "java/lang/String" "coder" "B" ∈ wsL_law := wb_t5 230 rfl rfl
set_option maxRecDepth 4000 in
theorem q_337 : Cond.methodLink RX9 43 yJ0_charAt_5068e ∈ wsL_law := wb_t2 145 rfl rfl
set_option maxRecDepth 4000 in
theorem q_338 : Cond.instanceMethod yJ0_charAt_5068e ∈ wsL_law := wb_t2 146 rfl rfl
set_option maxRecDepth 4000 in
theorem q_339 : Cond.selects RJ0 yJ0_charAt_5068e yJ0_charAt_5068e ∈ wsL_law := wb_t2 147 rfl rfl
set_option maxRecDepth 4000 in
theorem q_340 : Cond.code yJ0_charAt_5068e cJ0_charAt_5068e 2 (some .char) ∈ wsL_law := wb_t2 148 rfl rfl
set_option maxRecDepth 4000 in
theorem q_341 : Cond.methodLink RJ0 492 yJ0_isLatin1_aae02 ∈ wsL_law := wb_t2 149 rfl rfl
set_option maxRecDepth 4000 in
theorem q_342 : Cond.instanceMethod yJ0_isLatin1_aae02 ∈ wsL_law := wb_t2 150 rfl rfl
set_option maxRecDepth 4000 in
theorem q_343 : Cond.selects RJ0 yJ0_isLatin1_aae02 yJ0_isLatin1_aae02 ∈ wsL_law := wb_t2 151 rfl rfl
set_option maxRecDepth 4000 in
theorem q_344 : Cond.code yJ0_isLatin1_aae02 cJ0_isLatin1_aae02 1 (some .boolean) ∈ wsL_law := wb_t2 152 rfl rfl
set_option maxRecDepth 4000 in
theorem q_345 : Cond.methodLink RJ0 495 yJ1_charAt_3b067 ∈ wsL_law := wb_t2 153 rfl rfl
set_option maxRecDepth 4000 in
theorem q_346 : Cond.static yJ1_charAt_3b067 ∈ wsL_law := wb_t2 154 rfl rfl
set_option maxRecDepth 4000 in
theorem q_347 : Cond.initialized RJ1 ∈ wsL_law := wb_t1 16 rfl rfl
set_option maxRecDepth 4000 in
theorem q_348 : Cond.code yJ1_charAt_3b067 cJ1_charAt_3b067 2 (some .char) ∈ wsL_law := wb_t2 155 rfl rfl
set_option maxRecDepth 4000 in
theorem q_349 : Cond.methodLink RJ1 9 yJ0_checkIndex_df160 ∈ wsL_law := wb_t2 156 rfl rfl
set_option maxRecDepth 4000 in
theorem q_350 : Cond.static yJ0_checkIndex_df160 ∈ wsL_law := wb_t2 157 rfl rfl
set_option maxRecDepth 4000 in
theorem q_351 : Cond.code yJ0_checkIndex_df160 cJ0_checkIndex_df160 2 none ∈ wsL_law := wb_t2 158 rfl rfl
set_option maxRecDepth 4000 in
theorem q_352 : Cond.fieldLink RJ0 1053 "jdk/internal/util/Preconditions" "SIOOBE_FORMATTER" "Ljava/util/function/BiFunction;" ∈ wsL_law := wb_t2 159 rfl rfl
set_option maxRecDepth 4000 in
theorem q_353 : Cond.methodLink RJ0 1059 yJ3_checkIndex_8e157 ∈ wsL_law := wb_t2 161 rfl rfl
set_option maxRecDepth 4000 in
theorem q_354 : Cond.static yJ3_checkIndex_8e157 ∈ wsL_law := wb_t2 162 rfl rfl
set_option maxRecDepth 4000 in
theorem q_355 : Cond.initialized RJ3 ∈ wsL_law := wb_t1 17 rfl rfl
set_option maxRecDepth 4000 in
theorem q_356 : Cond.code yJ3_checkIndex_8e157 cJ3_checkIndex_8e157 3 (some .int) ∈ wsL_law := wb_t2 163 rfl rfl
set_option maxRecDepth 4000 in
theorem q_357 : Cond.methodLink RJ0 498 yJ2_charAt_3b067 ∈ wsL_law := wb_t2 164 rfl rfl
set_option maxRecDepth 4000 in
theorem q_358 : Cond.static yJ2_charAt_3b067 ∈ wsL_law := wb_t2 165 rfl rfl
set_option maxRecDepth 4000 in
theorem q_359 : Cond.initialized RJ2 ∈ wsL_law := wb_t1 18 rfl rfl
set_option maxRecDepth 4000 in
theorem q_360 : Cond.code yJ2_charAt_3b067 cJ2_charAt_3b067 2 (some .char) ∈ wsL_law := wb_t2 166 rfl rfl
set_option maxRecDepth 4000 in
theorem q_361 : Cond.methodLink RJ2 67 yJ2_checkIndex_2214a ∈ wsL_law := wb_t2 167 rfl rfl
set_option maxRecDepth 4000 in
theorem q_362 : Cond.static yJ2_checkIndex_2214a ∈ wsL_law := wb_t2 168 rfl rfl
set_option maxRecDepth 4000 in
theorem q_363 : Cond.code yJ2_checkIndex_2214a cJ2_checkIndex_2214a 2 none ∈ wsL_law := wb_t2 169 rfl rfl
set_option maxRecDepth 4000 in
theorem q_364 : Cond.methodLink RJ2 48 yJ2_length_9d52b ∈ wsL_law := wb_t2 170 rfl rfl
set_option maxRecDepth 4000 in
theorem q_365 : Cond.static yJ2_length_9d52b ∈ wsL_law := wb_t2 171 rfl rfl
set_option maxRecDepth 4000 in
theorem q_366 : Cond.code yJ2_length_9d52b cJ2_length_9d52b 1 (some .int) ∈ wsL_law := wb_t2 172 rfl rfl
set_option maxRecDepth 4000 in
theorem q_367 : Cond.methodLink RJ2 414 yJ0_checkIndex_df160 ∈ wsL_law := wb_t2 173 rfl rfl
set_option maxRecDepth 4000 in
theorem q_368 : Cond.methodLink RJ2 71 yJ2_getChar_3b067 ∈ wsL_law := wb_t2 174 rfl rfl
set_option maxRecDepth 4000 in
theorem q_369 : Cond.static yJ2_getChar_3b067 ∈ wsL_law := wb_t2 175 rfl rfl
set_option maxRecDepth 4000 in
theorem q_370 : Cond.code yJ2_getChar_3b067 cJ2_getChar_3b067 2 (some .char) ∈ wsL_law := wb_t2 176 rfl rfl
set_option maxRecDepth 4000 in
theorem q_371 : Cond.fieldLink RJ2 44 "java/lang/StringUTF16" "$assertionsDisabled" "Z" ∈ wsL_law := wb_t2 177 rfl rfl
set_option maxRecDepth 4000 in
theorem q_372 : Cond.fieldLink RJ2 59 "java/lang/StringUTF16" "HI_BYTE_SHIFT" "I" ∈ wsL_law := wb_t2 179 rfl rfl
set_option maxRecDepth 4000 in
theorem q_373 : Cond.fieldLink RJ2 63 "java/lang/StringUTF16" "LO_BYTE_SHIFT" "I" ∈ wsL_law := wb_t2 181 rfl rfl
set_option maxRecDepth 4000 in
theorem q_374 : Cond.methodLink RX4 51 yX4_takeNumber ∈ wsL_law := wb_t2 183 rfl rfl
set_option maxRecDepth 4000 in
theorem q_375 : Cond.instanceMethod yX4_takeNumber ∈ wsL_law := wb_t2 185 rfl rfl
theorem q_376 : Cond.selects RX4 yX4_takeNumber yX4_takeNumber ∈ wsL_law := wb_p1 (q := (⟨"RingShepherds$Reader", "takeNumber", "(III)Z"⟩, 3)) 4 rfl rfl rfl
set_option maxRecDepth 4000 in
theorem q_377 : Cond.code yX4_takeNumber cX4_takeNumber 4 (some .boolean) ∈ wsL_law := wb_t2 186 rfl rfl
set_option maxRecDepth 4000 in
theorem q_378 : Cond.methodLink RX4 96 yX9_number ∈ wsL_law := wb_t2 187 rfl rfl
set_option maxRecDepth 4000 in
theorem q_379 : Cond.instanceMethod yX9_number ∈ wsL_law := wb_t2 188 rfl rfl
set_option maxRecDepth 4000 in
theorem q_380 : Cond.selects RX9 yX9_number yX9_number ∈ wsL_law := wb_t2 189 rfl rfl
set_option maxRecDepth 4000 in
theorem q_381 : Cond.code yX9_number cX9_number 3 (some .int) ∈ wsL_law := wb_t2 190 rfl rfl
set_option maxRecDepth 4000 in
theorem q_382 : Cond.methodLink RX4 55 yX4_takeSemicolon ∈ wsL_law := wb_t2 192 rfl rfl
set_option maxRecDepth 4000 in
theorem q_383 : Cond.instanceMethod yX4_takeSemicolon ∈ wsL_law := wb_t2 194 rfl rfl
theorem q_384 : Cond.selects RX4 yX4_takeSemicolon yX4_takeSemicolon ∈ wsL_law := wb_p1 (q := (⟨"RingShepherds$Reader", "takeSemicolon", "()Z"⟩, 3)) 5 rfl rfl rfl
set_option maxRecDepth 4000 in
theorem q_385 : Cond.code yX4_takeSemicolon cX4_takeSemicolon 1 (some .boolean) ∈ wsL_law := wb_t2 195 rfl rfl
set_option maxRecDepth 4000 in
theorem q_386 : Cond.methodLink RX4 58 yX5_begin ∈ wsL_law := wb_t2 196 rfl rfl
set_option maxRecDepth 4000 in
theorem q_387 : Cond.methodLink RX4 42 yX4_readItem ∈ wsL_law := wb_t2 197 rfl rfl
set_option maxRecDepth 4000 in
theorem q_388 : Cond.instanceMethod yX4_readItem ∈ wsL_law := wb_t2 199 rfl rfl
theorem q_389 : Cond.selects RX4 yX4_readItem yX4_readItem ∈ wsL_law := wb_p1 (q := (⟨"RingShepherds$Reader", "readItem", "()Z"⟩, 3)) 6 rfl rfl rfl
set_option maxRecDepth 4000 in
theorem q_390 : Cond.code yX4_readItem cX4_readItem 1 (some .boolean) ∈ wsL_law := wb_t2 200 rfl rfl
set_option maxRecDepth 4000 in
theorem q_391 : Cond.fieldLink RX4 76 "RingShepherds$Ring" "moons" "I" ∈ wsL_law := wb_t1 105 rfl rfl
set_option maxRecDepth 4000 in
theorem q_392 : Cond.methodLink RX4 66 yX4_readStep ∈ wsL_law := wb_t2 202 rfl rfl
set_option maxRecDepth 4000 in
theorem q_393 : Cond.instanceMethod yX4_readStep ∈ wsL_law := wb_t2 204 rfl rfl
theorem q_394 : Cond.selects RX4 yX4_readStep yX4_readStep ∈ wsL_law := wb_p1 (q := (⟨"RingShepherds$Reader", "readStep", "()Z"⟩, 3)) 7 rfl rfl rfl
set_option maxRecDepth 4000 in
theorem q_395 : Cond.code yX4_readStep cX4_readStep 1 (some .boolean) ∈ wsL_law := wb_t2 205 rfl rfl
set_option maxRecDepth 4000 in
theorem q_396 : Cond.fieldLink RX4 82 "RingShepherds$Ring" "steps" "[I" ∈ wsL_law := wb_t1 89 rfl rfl
set_option maxRecDepth 4000 in
theorem q_397 : Cond.methodLink RX4 71 yX4_readLumps ∈ wsL_law := wb_t2 207 rfl rfl
set_option maxRecDepth 4000 in
theorem q_398 : Cond.instanceMethod yX4_readLumps ∈ wsL_law := wb_t2 209 rfl rfl
theorem q_399 : Cond.selects RX4 yX4_readLumps yX4_readLumps ∈ wsL_law := wb_p1 (q := (⟨"RingShepherds$Reader", "readLumps", "()Z"⟩, 3)) 8 rfl rfl rfl
set_option maxRecDepth 4000 in
theorem q_400 : Cond.code yX4_readLumps cX4_readLumps 1 (some .boolean) ∈ wsL_law := wb_t2 210 rfl rfl
set_option maxRecDepth 4000 in
theorem q_401 : Cond.fieldLink RX4 85 "RingShepherds$Ring" "places" "I" ∈ wsL_law := wb_t1 102 rfl rfl
set_option maxRecDepth 4000 in
theorem q_402 : Cond.methodLink RX4 88 yX5_setLumps ∈ wsL_law := wb_t2 211 rfl rfl
set_option maxRecDepth 4000 in
theorem q_403 : Cond.methodLink RX4 79 yX4_readMoon ∈ wsL_law := wb_t2 213 rfl rfl
set_option maxRecDepth 4000 in
theorem q_404 : Cond.instanceMethod yX4_readMoon ∈ wsL_law := wb_t2 215 rfl rfl
theorem q_405 : Cond.selects RX4 yX4_readMoon yX4_readMoon ∈ wsL_law := wb_p1 (q := (⟨"RingShepherds$Reader", "readMoon", "()Z"⟩, 3)) 9 rfl rfl rfl
set_option maxRecDepth 4000 in
theorem q_406 : Cond.code yX4_readMoon cX4_readMoon 1 (some .boolean) ∈ wsL_law := wb_t2 216 rfl rfl
set_option maxRecDepth 4000 in
theorem q_407 : Cond.methodLink RX4 92 yX5_addMoon ∈ wsL_law := wb_t2 217 rfl rfl
set_option maxRecDepth 4000 in
theorem q_408 : Cond.methodLink RX11 141 yX5_copy ∈ wsL_law := wb_t2 218 rfl rfl
set_option maxRecDepth 4000 in
theorem q_409 : Cond.instanceMethod yX5_copy ∈ wsL_law := wb_t2 219 rfl rfl
set_option maxRecDepth 4000 in
theorem q_410 : Cond.selects RX5 yX5_copy yX5_copy ∈ wsL_law := wb_t2 220 rfl rfl
set_option maxRecDepth 4000 in
theorem q_411 : Cond.code yX5_copy cX5_copy 2 none ∈ wsL_law := wb_t2 221 rfl rfl
set_option maxRecDepth 4000 in
theorem q_412 : Cond.methodLink RX5 63 arraycopyName ∈ wsL_law := wb_t2 222 rfl rfl
set_option maxRecDepth 4000 in
theorem q_413 : Cond.native arraycopyName ∈ wsL_law := wb_t2 224 rfl rfl
set_option maxRecDepth 4000 in
theorem q_414 : Cond.static arraycopyName ∈ wsL_law := wb_t2 223 rfl rfl
set_option maxRecDepth 4000 in
theorem q_415 : Cond.initialized "java/lang/System" ∈ wsL_law := wb_t1 19 rfl rfl
set_option maxRecDepth 4000 in
theorem q_416 : Cond.methodLink RX5 69 yX5_goBackTo ∈ wsL_law := wb_t2 225 rfl rfl
set_option maxRecDepth 4000 in
theorem q_417 : Cond.instanceMethod yX5_goBackTo ∈ wsL_law := wb_t2 226 rfl rfl
set_option maxRecDepth 4000 in
theorem q_418 : Cond.selects RX5 yX5_goBackTo yX5_goBackTo ∈ wsL_law := wb_t2 227 rfl rfl
set_option maxRecDepth 4000 in
theorem q_419 : Cond.code yX5_goBackTo cX5_goBackTo 2 none ∈ wsL_law := wb_t2 228 rfl rfl
set_option maxRecDepth 4000 in
theorem q_420 : Cond.methodLink RL 48 yX12_read ∈ wsL_law := wb_t5 148 rfl rfl
set_option maxRecDepth 4000 in
theorem q_421 : Cond.instanceMethod yX12_read ∈ wsL_law := wb_t5 149 rfl rfl
set_option maxRecDepth 4000 in
theorem q_422 : Cond.selects RX12 yX12_read yX12_read ∈ wsL_law := wb_t5 150 rfl rfl
set_option maxRecDepth 4000 in
theorem q_423 : Cond.code yX12_read cX12_read 3 (some .int) ∈ wsL_law := wb_t5 151 rfl rfl
set_option maxRecDepth 4000 in
theorem q_424 : Cond.fieldLink RX12 227 "RingShepherdsModel" "tokenAt" "I" ∈ wsL_law := wb_t4 111 rfl rfl
set_option maxRecDepth 4000 in
theorem q_425 : Cond.fieldLink RX12 233 "RingShepherdsModel" "token" "I" ∈ wsL_law := wb_t4 113 rfl rfl
set_option maxRecDepth 4000 in
theorem q_426 : Cond.methodLink RX12 245 yX12_look ∈ wsL_law := wb_t5 152 rfl rfl
set_option maxRecDepth 4000 in
theorem q_427 : Cond.instanceMethod yX12_look ∈ wsL_law := wb_t5 154 rfl rfl
theorem q_428 : Cond.selects RX12 yX12_look yX12_look ∈ wsL_law := wb_p3 (q := (⟨"RingShepherdsModel", "look", "(I)V"⟩, 25)) 15 rfl rfl rfl
set_option maxRecDepth 4000 in
theorem q_429 : Cond.code yX12_look cX12_look 5 none ∈ wsL_law := wb_t5 155 rfl rfl
set_option maxRecDepth 4000 in
theorem q_430 : Cond.fieldLink RX12 230 "RingShepherdsModel" "tokenLong" "I" ∈ wsL_law := wb_t4 112 rfl rfl
set_option maxRecDepth 4000 in
theorem q_431 : Cond.fieldLink RX12 236 "RingShepherdsModel" "value" "I" ∈ wsL_law := wb_t4 114 rfl rfl
set_option maxRecDepth 4000 in
theorem q_432 : Cond.methodLink RX12 239 yX12_isSmall ∈ wsL_law := wb_t5 156 rfl rfl
set_option maxRecDepth 4000 in
theorem q_433 : Cond.static yX12_isSmall ∈ wsL_law := wb_t5 157 rfl rfl
set_option maxRecDepth 4000 in
theorem q_434 : Cond.code yX12_isSmall cX12_isSmall 1 (some .boolean) ∈ wsL_law := wb_t5 158 rfl rfl
set_option maxRecDepth 4000 in
theorem q_435 : Cond.constantLong RX12 219 (97) ∈ wsL_law := wb_t5 159 rfl rfl
set_option maxRecDepth 4000 in
theorem q_436 : Cond.constantLong RX12 221 (122) ∈ wsL_law := wb_t5 160 rfl rfl
set_option maxRecDepth 4000 in
theorem q_437 : Cond.methodLink RX12 242 yX12_isFigure ∈ wsL_law := wb_t5 161 rfl rfl
set_option maxRecDepth 4000 in
theorem q_438 : Cond.static yX12_isFigure ∈ wsL_law := wb_t5 162 rfl rfl
set_option maxRecDepth 4000 in
theorem q_439 : Cond.code yX12_isFigure cX12_isFigure 1 (some .boolean) ∈ wsL_law := wb_t5 163 rfl rfl
set_option maxRecDepth 4000 in
theorem q_440 : Cond.constantLong RX12 223 (48) ∈ wsL_law := wb_t5 164 rfl rfl
set_option maxRecDepth 4000 in
theorem q_441 : Cond.constantLong RX12 225 (57) ∈ wsL_law := wb_t5 165 rfl rfl
set_option maxRecDepth 4000 in
theorem q_442 : Cond.methodLink RX12 262 yX12_readsFirst ∈ wsL_law := wb_t5 166 rfl rfl
set_option maxRecDepth 4000 in
theorem q_443 : Cond.instanceMethod yX12_readsFirst ∈ wsL_law := wb_t5 168 rfl rfl
theorem q_444 : Cond.selects RX12 yX12_readsFirst yX12_readsFirst ∈ wsL_law := wb_p4 (q := (⟨"RingShepherdsModel", "readsFirst", "()Z"⟩, 25)) 0 rfl rfl rfl
set_option maxRecDepth 4000 in
theorem q_445 : Cond.code yX12_readsFirst cX12_readsFirst 2 (some .boolean) ∈ wsL_law := wb_t5 169 rfl rfl
set_option maxRecDepth 4000 in
theorem q_446 : Cond.methodLink RX12 251 yX12_isWord ∈ wsL_law := wb_t5 170 rfl rfl
set_option maxRecDepth 4000 in
theorem q_447 : Cond.instanceMethod yX12_isWord ∈ wsL_law := wb_t5 172 rfl rfl
theorem q_448 : Cond.selects RX12 yX12_isWord yX12_isWord ∈ wsL_law := wb_p4 (q := (⟨"RingShepherdsModel", "isWord", "(IIIII)Z"⟩, 25)) 1 rfl rfl rfl
set_option maxRecDepth 4000 in
theorem q_449 : Cond.code yX12_isWord cX12_isWord 9 (some .boolean) ∈ wsL_law := wb_t5 173 rfl rfl
set_option maxRecDepth 4000 in
theorem q_450 : Cond.methodLink RX12 248 yX12_goOn ∈ wsL_law := wb_t5 174 rfl rfl
set_option maxRecDepth 4000 in
theorem q_451 : Cond.instanceMethod yX12_goOn ∈ wsL_law := wb_t5 176 rfl rfl
theorem q_452 : Cond.selects RX12 yX12_goOn yX12_goOn ∈ wsL_law := wb_p4 (q := (⟨"RingShepherdsModel", "goOn", "()V"⟩, 25)) 2 rfl rfl rfl
set_option maxRecDepth 4000 in
theorem q_453 : Cond.code yX12_goOn cX12_goOn 1 none ∈ wsL_law := wb_t5 177 rfl rfl
set_option maxRecDepth 4000 in
theorem q_454 : Cond.methodLink RX12 255 yX12_takes ∈ wsL_law := wb_t5 178 rfl rfl
set_option maxRecDepth 4000 in
theorem q_455 : Cond.instanceMethod yX12_takes ∈ wsL_law := wb_t5 180 rfl rfl
theorem q_456 : Cond.selects RX12 yX12_takes yX12_takes ∈ wsL_law := wb_p4 (q := (⟨"RingShepherdsModel", "takes", "(III)Z"⟩, 25)) 3 rfl rfl rfl
set_option maxRecDepth 4000 in
theorem q_457 : Cond.code yX12_takes cX12_takes 4 (some .boolean) ∈ wsL_law := wb_t5 181 rfl rfl
set_option maxRecDepth 4000 in
theorem q_458 : Cond.methodLink RX12 266 yX12_readsItem ∈ wsL_law := wb_t5 182 rfl rfl
set_option maxRecDepth 4000 in
theorem q_459 : Cond.instanceMethod yX12_readsItem ∈ wsL_law := wb_t5 184 rfl rfl
theorem q_460 : Cond.selects RX12 yX12_readsItem yX12_readsItem ∈ wsL_law := wb_p4 (q := (⟨"RingShepherdsModel", "readsItem", "()Z"⟩, 25)) 4 rfl rfl rfl
set_option maxRecDepth 4000 in
theorem q_461 : Cond.code yX12_readsItem cX12_readsItem 2 (some .boolean) ∈ wsL_law := wb_t5 185 rfl rfl
set_option maxRecDepth 4000 in
theorem q_462 : Cond.methodLink RX12 259 yX12_lastPlace ∈ wsL_law := wb_t5 186 rfl rfl
set_option maxRecDepth 4000 in
theorem q_463 : Cond.instanceMethod yX12_lastPlace ∈ wsL_law := wb_t5 188 rfl rfl
theorem q_464 : Cond.selects RX12 yX12_lastPlace yX12_lastPlace ∈ wsL_law := wb_p4 (q := (⟨"RingShepherdsModel", "lastPlace", "()I"⟩, 25)) 5 rfl rfl rfl
set_option maxRecDepth 4000 in
theorem q_465 : Cond.code yX12_lastPlace cX12_lastPlace 1 (some .int) ∈ wsL_law := wb_t5 189 rfl rfl
set_option maxRecDepth 4000 in
theorem q_466 : Cond.methodLink RL 49 yX11_round ∈ wsL_law := wb_t2 230 rfl rfl
set_option maxRecDepth 4000 in
theorem q_467 : Cond.instanceMethod yX11_round ∈ wsL_law := wb_t2 231 rfl rfl
set_option maxRecDepth 4000 in
theorem q_468 : Cond.selects RX11 yX11_round yX11_round ∈ wsL_law := wb_t2 232 rfl rfl
set_option maxRecDepth 4000 in
theorem q_469 : Cond.code yX11_round cX11_round 1 (some .int) ∈ wsL_law := wb_t2 233 rfl rfl
set_option maxRecDepth 4000 in
theorem q_470 : Cond.methodLink RX11 145 yX7_goOn ∈ wsL_law := wb_t2 234 rfl rfl
set_option maxRecDepth 4000 in
theorem q_471 : Cond.instanceMethod yX7_goOn ∈ wsL_law := wb_t2 235 rfl rfl
set_option maxRecDepth 4000 in
theorem q_472 : Cond.selects RX7 yX7_goOn yX7_goOn ∈ wsL_law := wb_t2 236 rfl rfl
set_option maxRecDepth 4000 in
theorem q_473 : Cond.code yX7_goOn cX7_goOn 1 (some .int) ∈ wsL_law := wb_t2 237 rfl rfl
set_option maxRecDepth 4000 in
theorem q_474 : Cond.methodLink RX7 35 Lib.Math.min.name ∈ wsL_law := wb_t2 238 rfl rfl
set_option maxRecDepth 4000 in
theorem q_475 : Cond.static Lib.Math.min.name ∈ wsL_law := wb_t2 239 rfl rfl
set_option maxRecDepth 4000 in
theorem q_476 : Cond.initialized "java/lang/Math" ∈ wsL_law := wb_t1 20 rfl rfl
set_option maxRecDepth 4000 in
theorem q_477 : Cond.code Lib.Math.min.name Lib.Math.min.code 2 (some .int) ∈ wsL_law := wb_t3 0 rfl rfl
set_option maxRecDepth 4000 in
theorem q_478 : Cond.methodLink RX7 31 yX5_copy ∈ wsL_law := wb_t3 1 rfl rfl
set_option maxRecDepth 4000 in
theorem q_479 : Cond.methodLink RX7 41 yX5_goOn ∈ wsL_law := wb_t3 2 rfl rfl
set_option maxRecDepth 4000 in
theorem q_480 : Cond.instanceMethod yX5_goOn ∈ wsL_law := wb_t3 3 rfl rfl
set_option maxRecDepth 4000 in
theorem q_481 : Cond.selects RX5 yX5_goOn yX5_goOn ∈ wsL_law := wb_t3 4 rfl rfl
set_option maxRecDepth 4000 in
theorem q_482 : Cond.code yX5_goOn cX5_goOn 3 (some .int) ∈ wsL_law := wb_t3 5 rfl rfl
set_option maxRecDepth 4000 in
theorem q_483 : Cond.methodLink RX5 84 yX5_around ∈ wsL_law := wb_t3 6 rfl rfl
set_option maxRecDepth 4000 in
theorem q_484 : Cond.instanceMethod yX5_around ∈ wsL_law := wb_t3 7 rfl rfl
set_option maxRecDepth 4000 in
theorem q_485 : Cond.selects RX5 yX5_around yX5_around ∈ wsL_law := wb_t3 8 rfl rfl
set_option maxRecDepth 4000 in
theorem q_486 : Cond.code yX5_around cX5_around 2 (some .int) ∈ wsL_law := wb_t3 9 rfl rfl
set_option maxRecDepth 4000 in
theorem q_487 : Cond.methodLink RX5 91 yX5_moveMoon ∈ wsL_law := wb_t3 10 rfl rfl
set_option maxRecDepth 4000 in
theorem q_488 : Cond.instanceMethod yX5_moveMoon ∈ wsL_law := wb_t3 11 rfl rfl
set_option maxRecDepth 4000 in
theorem q_489 : Cond.selects RX5 yX5_moveMoon yX5_moveMoon ∈ wsL_law := wb_t3 12 rfl rfl
set_option maxRecDepth 4000 in
theorem q_490 : Cond.code yX5_moveMoon cX5_moveMoon 3 none ∈ wsL_law := wb_t3 13 rfl rfl
set_option maxRecDepth 4000 in
theorem q_491 : Cond.methodLink RX5 95 yX5_passBy ∈ wsL_law := wb_t3 14 rfl rfl
set_option maxRecDepth 4000 in
theorem q_492 : Cond.instanceMethod yX5_passBy ∈ wsL_law := wb_t3 16 rfl rfl
theorem q_493 : Cond.selects RX5 yX5_passBy yX5_passBy ∈ wsL_law := wb_p1 (q := (⟨"RingShepherds$Ring", "passBy", "(I)I"⟩, 13)) 10 rfl rfl rfl
set_option maxRecDepth 4000 in
theorem q_494 : Cond.code yX5_passBy cX5_passBy 11 (some .int) ∈ wsL_law := wb_t3 17 rfl rfl
set_option maxRecDepth 4000 in
theorem q_495 : Cond.methodLink RX5 102 ⟨"RingShepherds$Plain", "isAwake", "(I)Z"⟩ ∈ wsL_law := wb_t3 18 rfl rfl
set_option maxRecDepth 4000 in
theorem q_496 : Cond.sameMethod "RingShepherds$Plain" "RingShepherds$Plain" "isAwake" "(I)Z" ∈ wsL_law := wb_t3 21 rfl rfl
set_option maxRecDepth 4000 in
theorem q_497 : Cond.selects RX1 ⟨"RingShepherds$Plain", "isAwake", "(I)Z"⟩ yX3_isAwake ∈ wsL_law := wb_t3 22 rfl rfl
set_option maxRecDepth 4000 in
theorem q_498 : Cond.instanceMethod yX3_isAwake ∈ wsL_law := wb_t3 19 rfl rfl
set_option maxRecDepth 4000 in
theorem q_499 : Cond.code yX3_isAwake cX3_isAwake 2 (some .boolean) ∈ wsL_law := wb_t3 28 rfl rfl
set_option maxRecDepth 4000 in
theorem q_500 : Cond.selects RX3 yX3_isAwake yX3_isAwake ∈ wsL_law := wb_t3 20 rfl rfl
set_option maxRecDepth 4000 in
theorem q_501 : Cond.selects RX6 ⟨"RingShepherds$Plain", "isAwake", "(I)Z"⟩ yX6_isAwake ∈ wsL_law := wb_t3 23 rfl rfl
set_option maxRecDepth 4000 in
theorem q_502 : Cond.instanceMethod yX6_isAwake ∈ wsL_law := wb_t3 24 rfl rfl
set_option maxRecDepth 4000 in
theorem q_503 : Cond.code yX6_isAwake cX6_isAwake 2 (some .boolean) ∈ wsL_law := wb_t3 25 rfl rfl
set_option maxRecDepth 4000 in
theorem q_504 : Cond.selects RX8 ⟨"RingShepherds$Plain", "isAwake", "(I)Z"⟩ yX3_isAwake ∈ wsL_law := wb_t3 26 rfl rfl
set_option maxRecDepth 4000 in
theorem q_505 : Cond.selects RX10 ⟨"RingShepherds$Plain", "isAwake", "(I)Z"⟩ yX3_isAwake ∈ wsL_law := wb_t3 27 rfl rfl
set_option maxRecDepth 4000 in
theorem q_506 : Cond.methodLink RX5 108 ⟨"RingShepherds$Plain", "force", "()I"⟩ ∈ wsL_law := wb_t3 29 rfl rfl
set_option maxRecDepth 4000 in
theorem q_507 : Cond.sameMethod "RingShepherds$Plain" "RingShepherds$Plain" "force" "()I" ∈ wsL_law := wb_t3 32 rfl rfl
set_option maxRecDepth 4000 in
theorem q_508 : Cond.instanceMethod ⟨"RingShepherds$Plain", "force", "()I"⟩ ∈ wsL_law := wb_t3 30 rfl rfl
set_option maxRecDepth 4000 in
theorem q_509 : Cond.selects RX1 ⟨"RingShepherds$Plain", "force", "()I"⟩ yX1_force ∈ wsL_law := wb_t3 33 rfl rfl
set_option maxRecDepth 4000 in
theorem q_510 : Cond.instanceMethod yX1_force ∈ wsL_law := wb_t3 34 rfl rfl
set_option maxRecDepth 4000 in
theorem q_511 : Cond.code yX1_force cX1_force 1 (some .int) ∈ wsL_law := wb_t3 35 rfl rfl
set_option maxRecDepth 4000 in
theorem q_512 : Cond.code yX3_force cX3_force 1 (some .int) ∈ wsL_law := wb_t3 41 rfl rfl
set_option maxRecDepth 4000 in
theorem q_513 : Cond.selects RX3 yX3_force yX3_force ∈ wsL_law := wb_t3 31 rfl rfl
set_option maxRecDepth 4000 in
theorem q_514 : Cond.selects RX6 ⟨"RingShepherds$Plain", "force", "()I"⟩ yX3_force ∈ wsL_law := wb_t3 36 rfl rfl
set_option maxRecDepth 4000 in
theorem q_515 : Cond.selects RX8 ⟨"RingShepherds$Plain", "force", "()I"⟩ yX8_force ∈ wsL_law := wb_t3 37 rfl rfl
set_option maxRecDepth 4000 in
theorem q_516 : Cond.instanceMethod yX8_force ∈ wsL_law := wb_t3 38 rfl rfl
set_option maxRecDepth 4000 in
theorem q_517 : Cond.code yX8_force cX8_force 1 (some .int) ∈ wsL_law := wb_t3 39 rfl rfl
set_option maxRecDepth 4000 in
theorem q_518 : Cond.selects RX10 ⟨"RingShepherds$Plain", "force", "()I"⟩ yX3_force ∈ wsL_law := wb_t3 40 rfl rfl
set_option maxRecDepth 4000 in
theorem q_519 : Cond.methodLink RX5 111 ⟨"RingShepherds$Plain", "reach", "()I"⟩ ∈ wsL_law := wb_t3 42 rfl rfl
set_option maxRecDepth 4000 in
theorem q_520 : Cond.sameMethod "RingShepherds$Plain" "RingShepherds$Plain" "reach" "()I" ∈ wsL_law := wb_t3 45 rfl rfl
set_option maxRecDepth 4000 in
theorem q_521 : Cond.selects RX1 ⟨"RingShepherds$Plain", "reach", "()I"⟩ yX3_reach ∈ wsL_law := wb_t3 46 rfl rfl
set_option maxRecDepth 4000 in
theorem q_522 : Cond.instanceMethod yX3_reach ∈ wsL_law := wb_t3 43 rfl rfl
set_option maxRecDepth 4000 in
theorem q_523 : Cond.code yX3_reach cX3_reach 1 (some .int) ∈ wsL_law := wb_t3 52 rfl rfl
set_option maxRecDepth 4000 in
theorem q_524 : Cond.selects RX3 yX3_reach yX3_reach ∈ wsL_law := wb_t3 44 rfl rfl
set_option maxRecDepth 4000 in
theorem q_525 : Cond.selects RX6 ⟨"RingShepherds$Plain", "reach", "()I"⟩ yX3_reach ∈ wsL_law := wb_t3 47 rfl rfl
set_option maxRecDepth 4000 in
theorem q_526 : Cond.selects RX8 ⟨"RingShepherds$Plain", "reach", "()I"⟩ yX10_reach ∈ wsL_law := wb_t3 48 rfl rfl
set_option maxRecDepth 4000 in
theorem q_527 : Cond.instanceMethod yX10_reach ∈ wsL_law := wb_t3 49 rfl rfl
set_option maxRecDepth 4000 in
theorem q_528 : Cond.code yX10_reach cX10_reach 1 (some .int) ∈ wsL_law := wb_t3 50 rfl rfl
set_option maxRecDepth 4000 in
theorem q_529 : Cond.selects RX10 ⟨"RingShepherds$Plain", "reach", "()I"⟩ yX10_reach ∈ wsL_law := wb_t3 51 rfl rfl
set_option maxRecDepth 4000 in
theorem q_530 : Cond.methodLink RX5 114 yX5_takeAll ∈ wsL_law := wb_t3 53 rfl rfl
set_option maxRecDepth 4000 in
theorem q_531 : Cond.instanceMethod yX5_takeAll ∈ wsL_law := wb_t3 55 rfl rfl
theorem q_532 : Cond.selects RX5 yX5_takeAll yX5_takeAll ∈ wsL_law := wb_p1 (q := (⟨"RingShepherds$Ring", "takeAll", "(II)I"⟩, 13)) 11 rfl rfl rfl
set_option maxRecDepth 4000 in
theorem q_533 : Cond.code yX5_takeAll cX5_takeAll 5 (some .int) ∈ wsL_law := wb_t3 56 rfl rfl
set_option maxRecDepth 4000 in
theorem q_534 : Cond.methodLink RX5 117 yX5_put ∈ wsL_law := wb_t3 58 rfl rfl
set_option maxRecDepth 4000 in
theorem q_535 : Cond.instanceMethod yX5_put ∈ wsL_law := wb_t3 60 rfl rfl
theorem q_536 : Cond.selects RX5 yX5_put yX5_put ∈ wsL_law := wb_p1 (q := (⟨"RingShepherds$Ring", "put", "(III)I"⟩, 13)) 12 rfl rfl rfl
set_option maxRecDepth 4000 in
theorem q_537 : Cond.code yX5_put cX5_put 4 (some .int) ∈ wsL_law := wb_t3 61 rfl rfl
set_option maxRecDepth 4000 in
theorem q_538 : Cond.methodLink RL 52 yX12_round ∈ wsL_law := wb_t4 218 rfl rfl
set_option maxRecDepth 4000 in
theorem q_539 : Cond.instanceMethod yX12_round ∈ wsL_law := wb_t4 219 rfl rfl
set_option maxRecDepth 4000 in
theorem q_540 : Cond.selects RX12 yX12_round yX12_round ∈ wsL_law := wb_t4 220 rfl rfl
set_option maxRecDepth 4000 in
theorem q_541 : Cond.code yX12_round cX12_round 4 (some .int) ∈ wsL_law := wb_t4 221 rfl rfl
set_option maxRecDepth 4000 in
theorem q_542 : Cond.methodLink RX12 127 yX12_all ∈ wsL_law := wb_t4 222 rfl rfl
set_option maxRecDepth 4000 in
theorem q_543 : Cond.instanceMethod yX12_all ∈ wsL_law := wb_t4 224 rfl rfl
theorem q_544 : Cond.selects RX12 yX12_all yX12_all ∈ wsL_law := wb_p2 (q := (⟨"RingShepherdsModel", "all", "()I"⟩, 25)) 11 rfl rfl rfl
set_option maxRecDepth 4000 in
theorem q_545 : Cond.code yX12_all cX12_all 1 (some .int) ∈ wsL_law := wb_t4 225 rfl rfl
set_option maxRecDepth 4000 in
theorem q_546 : Cond.methodLink RX12 130 yX12_takeNow ∈ wsL_law := wb_t4 226 rfl rfl
set_option maxRecDepth 4000 in
theorem q_547 : Cond.instanceMethod yX12_takeNow ∈ wsL_law := wb_t4 228 rfl rfl
theorem q_548 : Cond.selects RX12 yX12_takeNow yX12_takeNow ∈ wsL_law := wb_p2 (q := (⟨"RingShepherdsModel", "takeNow", "(I)V"⟩, 25)) 12 rfl rfl rfl
set_option maxRecDepth 4000 in
theorem q_549 : Cond.code yX12_takeNow cX12_takeNow 3 none ∈ wsL_law := wb_t4 229 rfl rfl
set_option maxRecDepth 4000 in
theorem q_550 : Cond.fieldLink RX12 101 "RingShepherdsModel" "number" "I" ∈ wsL_law := wb_t4 101 rfl rfl
set_option maxRecDepth 4000 in
theorem q_551 : Cond.fieldLink RX12 105 "RingShepherdsModel" "some" "I" ∈ wsL_law := wb_t4 102 rfl rfl
set_option maxRecDepth 4000 in
theorem q_552 : Cond.methodLink RX12 97 yX12_of ∈ wsL_law := wb_t4 230 rfl rfl
set_option maxRecDepth 4000 in
theorem q_553 : Cond.instanceMethod yX12_of ∈ wsL_law := wb_t4 232 rfl rfl
theorem q_554 : Cond.selects RX12 yX12_of yX12_of ∈ wsL_law := wb_p2 (q := (⟨"RingShepherdsModel", "of", "(II)I"⟩, 25)) 13 rfl rfl rfl
set_option maxRecDepth 4000 in
theorem q_555 : Cond.code yX12_of cX12_of 3 (some .int) ∈ wsL_law := wb_t4 233 rfl rfl
set_option maxRecDepth 4000 in
theorem q_556 : Cond.methodLink RX12 134 yX12_goRound ∈ wsL_law := wb_t4 234 rfl rfl
set_option maxRecDepth 4000 in
theorem q_557 : Cond.instanceMethod yX12_goRound ∈ wsL_law := wb_t4 236 rfl rfl
theorem q_558 : Cond.selects RX12 yX12_goRound yX12_goRound ∈ wsL_law := wb_p2 (q := (⟨"RingShepherdsModel", "goRound", "()I"⟩, 25)) 14 rfl rfl rfl
set_option maxRecDepth 4000 in
theorem q_559 : Cond.code yX12_goRound cX12_goRound 3 (some .int) ∈ wsL_law := wb_t4 237 rfl rfl
set_option maxRecDepth 4000 in
theorem q_560 : Cond.methodLink RX12 118 yX12_goMoons ∈ wsL_law := wb_t4 238 rfl rfl
set_option maxRecDepth 4000 in
theorem q_561 : Cond.instanceMethod yX12_goMoons ∈ wsL_law := wb_t5 0 rfl rfl
theorem q_562 : Cond.selects RX12 yX12_goMoons yX12_goMoons ∈ wsL_law := wb_p2 (q := (⟨"RingShepherdsModel", "goMoons", "()V"⟩, 25)) 15 rfl rfl rfl
set_option maxRecDepth 4000 in
theorem q_563 : Cond.code yX12_goMoons cX12_goMoons 2 none ∈ wsL_law := wb_t5 1 rfl rfl
set_option maxRecDepth 4000 in
theorem q_564 : Cond.methodLink RX12 121 yX12_isAwake ∈ wsL_law := wb_t5 2 rfl rfl
set_option maxRecDepth 4000 in
theorem q_565 : Cond.instanceMethod yX12_isAwake ∈ wsL_law := wb_t5 4 rfl rfl
theorem q_566 : Cond.selects RX12 yX12_isAwake yX12_isAwake ∈ wsL_law := wb_p3 (q := (⟨"RingShepherdsModel", "isAwake", "(I)Z"⟩, 25)) 0 rfl rfl rfl
set_option maxRecDepth 4000 in
theorem q_567 : Cond.code yX12_isAwake cX12_isAwake 2 (some .boolean) ∈ wsL_law := wb_t5 5 rfl rfl
set_option maxRecDepth 4000 in
theorem q_568 : Cond.methodLink RX12 124 yX12_goMoon ∈ wsL_law := wb_t5 6 rfl rfl
set_option maxRecDepth 4000 in
theorem q_569 : Cond.instanceMethod yX12_goMoon ∈ wsL_law := wb_t5 8 rfl rfl
theorem q_570 : Cond.selects RX12 yX12_goMoon yX12_goMoon ∈ wsL_law := wb_p3 (q := (⟨"RingShepherdsModel", "goMoon", "(I)I"⟩, 25)) 1 rfl rfl rfl
set_option maxRecDepth 4000 in
theorem q_571 : Cond.code yX12_goMoon cX12_goMoon 7 (some .int) ∈ wsL_law := wb_t5 9 rfl rfl
set_option maxRecDepth 4000 in
theorem q_572 : Cond.methodLink RX12 108 yX12_isBy ∈ wsL_law := wb_t5 10 rfl rfl
set_option maxRecDepth 4000 in
theorem q_573 : Cond.instanceMethod yX12_isBy ∈ wsL_law := wb_t5 12 rfl rfl
theorem q_574 : Cond.selects RX12 yX12_isBy yX12_isBy ∈ wsL_law := wb_p3 (q := (⟨"RingShepherdsModel", "isBy", "(II)Z"⟩, 25)) 2 rfl rfl rfl
set_option maxRecDepth 4000 in
theorem q_575 : Cond.code yX12_isBy cX12_isBy 5 (some .boolean) ∈ wsL_law := wb_t5 13 rfl rfl
set_option maxRecDepth 4000 in
theorem q_576 : Cond.methodLink RX12 112 yX12_isBeside ∈ wsL_law := wb_t5 14 rfl rfl
set_option maxRecDepth 4000 in
theorem q_577 : Cond.instanceMethod yX12_isBeside ∈ wsL_law := wb_t5 16 rfl rfl
theorem q_578 : Cond.selects RX12 yX12_isBeside yX12_isBeside ∈ wsL_law := wb_p3 (q := (⟨"RingShepherdsModel", "isBeside", "(II)Z"⟩, 25)) 3 rfl rfl rfl
set_option maxRecDepth 4000 in
theorem q_579 : Cond.code yX12_isBeside cX12_isBeside 3 (some .boolean) ∈ wsL_law := wb_t5 17 rfl rfl
set_option maxRecDepth 4000 in
theorem q_580 : Cond.methodLink RX12 115 yX12_movedTo ∈ wsL_law := wb_t5 18 rfl rfl
set_option maxRecDepth 4000 in
theorem q_581 : Cond.instanceMethod yX12_movedTo ∈ wsL_law := wb_t5 20 rfl rfl
theorem q_582 : Cond.selects RX12 yX12_movedTo yX12_movedTo ∈ wsL_law := wb_p3 (q := (⟨"RingShepherdsModel", "movedTo", "(II)I"⟩, 25)) 4 rfl rfl rfl
set_option maxRecDepth 4000 in
theorem q_583 : Cond.code yX12_movedTo cX12_movedTo 6 (some .int) ∈ wsL_law := wb_t5 21 rfl rfl
set_option maxRecDepth 4000 in
theorem q_584 : Cond.methodLink RL 53 yX11_undo ∈ wsL_law := wb_t3 62 rfl rfl
set_option maxRecDepth 4000 in
theorem q_585 : Cond.instanceMethod yX11_undo ∈ wsL_law := wb_t3 63 rfl rfl
set_option maxRecDepth 4000 in
theorem q_586 : Cond.selects RX11 yX11_undo yX11_undo ∈ wsL_law := wb_t3 64 rfl rfl
set_option maxRecDepth 4000 in
theorem q_587 : Cond.code yX11_undo cX11_undo 1 (some .int) ∈ wsL_law := wb_t3 65 rfl rfl
set_option maxRecDepth 4000 in
theorem q_588 : Cond.fieldLink RX11 148 "RingShepherds$Story" "undoable" "I" ∈ wsL_law := wb_t1 146 rfl rfl
set_option maxRecDepth 4000 in
theorem q_589 : Cond.methodLink RX11 151 yX7_goBack ∈ wsL_law := wb_t3 66 rfl rfl
set_option maxRecDepth 4000 in
theorem q_590 : Cond.instanceMethod yX7_goBack ∈ wsL_law := wb_t3 67 rfl rfl
set_option maxRecDepth 4000 in
theorem q_591 : Cond.selects RX7 yX7_goBack yX7_goBack ∈ wsL_law := wb_t3 68 rfl rfl
set_option maxRecDepth 4000 in
theorem q_592 : Cond.code yX7_goBack cX7_goBack 1 none ∈ wsL_law := wb_t3 69 rfl rfl
set_option maxRecDepth 4000 in
theorem q_593 : Cond.methodLink RX7 45 yX5_goBackTo ∈ wsL_law := wb_t3 70 rfl rfl
set_option maxRecDepth 4000 in
theorem q_594 : Cond.methodLink RL 56 yX12_undo ∈ wsL_law := wb_t5 22 rfl rfl
set_option maxRecDepth 4000 in
theorem q_595 : Cond.instanceMethod yX12_undo ∈ wsL_law := wb_t5 23 rfl rfl
set_option maxRecDepth 4000 in
theorem q_596 : Cond.selects RX12 yX12_undo yX12_undo ∈ wsL_law := wb_t5 24 rfl rfl
set_option maxRecDepth 4000 in
theorem q_597 : Cond.code yX12_undo cX12_undo 3 (some .int) ∈ wsL_law := wb_t5 25 rfl rfl
set_option maxRecDepth 4000 in
theorem q_598 : Cond.methodLink RX12 137 yX12_no ∈ wsL_law := wb_t5 26 rfl rfl
set_option maxRecDepth 4000 in
theorem q_599 : Cond.instanceMethod yX12_no ∈ wsL_law := wb_t5 28 rfl rfl
theorem q_600 : Cond.selects RX12 yX12_no yX12_no ∈ wsL_law := wb_p3 (q := (⟨"RingShepherdsModel", "no", "()I"⟩, 25)) 5 rfl rfl rfl
set_option maxRecDepth 4000 in
theorem q_601 : Cond.code yX12_no cX12_no 1 (some .int) ∈ wsL_law := wb_t5 29 rfl rfl
set_option maxRecDepth 4000 in
theorem q_602 : Cond.methodLink RL 57 yX11_there ∈ wsL_law := wb_t3 71 rfl rfl
set_option maxRecDepth 4000 in
theorem q_603 : Cond.instanceMethod yX11_there ∈ wsL_law := wb_t3 72 rfl rfl
set_option maxRecDepth 4000 in
theorem q_604 : Cond.selects RX11 yX11_there yX11_there ∈ wsL_law := wb_t3 73 rfl rfl
set_option maxRecDepth 4000 in
theorem q_605 : Cond.code yX11_there cX11_there 3 (some .int) ∈ wsL_law := wb_t3 74 rfl rfl
set_option maxRecDepth 4000 in
theorem q_606 : Cond.methodLink RX11 154 yX5_lumpsIn ∈ wsL_law := wb_t3 75 rfl rfl
set_option maxRecDepth 4000 in
theorem q_607 : Cond.instanceMethod yX5_lumpsIn ∈ wsL_law := wb_t3 76 rfl rfl
set_option maxRecDepth 4000 in
theorem q_608 : Cond.selects RX5 yX5_lumpsIn yX5_lumpsIn ∈ wsL_law := wb_t3 77 rfl rfl
set_option maxRecDepth 4000 in
theorem q_609 : Cond.code yX5_lumpsIn cX5_lumpsIn 5 (some .int) ∈ wsL_law := wb_t3 78 rfl rfl
set_option maxRecDepth 4000 in
theorem q_610 : Cond.methodLink RL 60 yX12_there ∈ wsL_law := wb_t5 30 rfl rfl
set_option maxRecDepth 4000 in
theorem q_611 : Cond.instanceMethod yX12_there ∈ wsL_law := wb_t5 31 rfl rfl
set_option maxRecDepth 4000 in
theorem q_612 : Cond.selects RX12 yX12_there yX12_there ∈ wsL_law := wb_t5 32 rfl rfl
set_option maxRecDepth 4000 in
theorem q_613 : Cond.code yX12_there cX12_there 3 (some .int) ∈ wsL_law := wb_t5 33 rfl rfl
set_option maxRecDepth 4000 in
theorem q_614 : Cond.methodLink RX12 140 yX12_sumOf ∈ wsL_law := wb_t5 34 rfl rfl
set_option maxRecDepth 4000 in
theorem q_615 : Cond.static yX12_sumOf ∈ wsL_law := wb_t5 35 rfl rfl
set_option maxRecDepth 4000 in
theorem q_616 : Cond.code yX12_sumOf cX12_sumOf 5 (some .int) ∈ wsL_law := wb_t5 36 rfl rfl
set_option maxRecDepth 4000 in
theorem q_617 : Cond.methodLink RL 61 yX11_about ∈ wsL_law := wb_t3 79 rfl rfl
set_option maxRecDepth 4000 in
theorem q_618 : Cond.instanceMethod yX11_about ∈ wsL_law := wb_t3 80 rfl rfl
set_option maxRecDepth 4000 in
theorem q_619 : Cond.selects RX11 yX11_about yX11_about ∈ wsL_law := wb_t3 81 rfl rfl
set_option maxRecDepth 4000 in
theorem q_620 : Cond.code yX11_about cX11_about 3 (some .int) ∈ wsL_law := wb_t3 82 rfl rfl
set_option maxRecDepth 4000 in
theorem q_621 : Cond.methodLink RX11 158 yX11_isMoon ∈ wsL_law := wb_t3 83 rfl rfl
set_option maxRecDepth 4000 in
theorem q_622 : Cond.instanceMethod yX11_isMoon ∈ wsL_law := wb_t3 85 rfl rfl
theorem q_623 : Cond.selects RX11 yX11_isMoon yX11_isMoon ∈ wsL_law := wb_p1 (q := (⟨"RingShepherds", "isMoon", "(I)Z"⟩, 9)) 13 rfl rfl rfl
set_option maxRecDepth 4000 in
theorem q_624 : Cond.code yX11_isMoon cX11_isMoon 2 (some .boolean) ∈ wsL_law := wb_t3 86 rfl rfl
set_option maxRecDepth 4000 in
theorem q_625 : Cond.methodLink RX11 161 yX5_aboutMoon ∈ wsL_law := wb_t3 87 rfl rfl
set_option maxRecDepth 4000 in
theorem q_626 : Cond.instanceMethod yX5_aboutMoon ∈ wsL_law := wb_t3 88 rfl rfl
set_option maxRecDepth 4000 in
theorem q_627 : Cond.selects RX5 yX5_aboutMoon yX5_aboutMoon ∈ wsL_law := wb_t3 89 rfl rfl
set_option maxRecDepth 4000 in
theorem q_628 : Cond.code yX5_aboutMoon cX5_aboutMoon 3 (some .int) ∈ wsL_law := wb_t3 90 rfl rfl
set_option maxRecDepth 4000 in
theorem q_629 : Cond.methodLink RL 64 yX12_about ∈ wsL_law := wb_t5 37 rfl rfl
set_option maxRecDepth 4000 in
theorem q_630 : Cond.instanceMethod yX12_about ∈ wsL_law := wb_t5 38 rfl rfl
set_option maxRecDepth 4000 in
theorem q_631 : Cond.selects RX12 yX12_about yX12_about ∈ wsL_law := wb_t5 39 rfl rfl
set_option maxRecDepth 4000 in
theorem q_632 : Cond.code yX12_about cX12_about 3 (some .int) ∈ wsL_law := wb_t5 40 rfl rfl
set_option maxRecDepth 4000 in
theorem q_633 : Cond.constantLong RX12 147 (3) ∈ wsL_law := wb_t5 45 rfl rfl
set_option maxRecDepth 4000 in
theorem q_634 : Cond.methodLink RX12 144 yX12_isMoon ∈ wsL_law := wb_t5 41 rfl rfl
set_option maxRecDepth 4000 in
theorem q_635 : Cond.instanceMethod yX12_isMoon ∈ wsL_law := wb_t5 43 rfl rfl
theorem q_636 : Cond.selects RX12 yX12_isMoon yX12_isMoon ∈ wsL_law := wb_p3 (q := (⟨"RingShepherdsModel", "isMoon", "(I)Z"⟩, 25)) 6 rfl rfl rfl
set_option maxRecDepth 4000 in
theorem q_637 : Cond.code yX12_isMoon cX12_isMoon 2 (some .boolean) ∈ wsL_law := wb_t5 44 rfl rfl
set_option maxRecDepth 4000 in
theorem q_638 : Cond.methodLink RL 65 yX11_where ∈ wsL_law := wb_t3 91 rfl rfl
set_option maxRecDepth 4000 in
theorem q_639 : Cond.instanceMethod yX11_where ∈ wsL_law := wb_t3 92 rfl rfl
set_option maxRecDepth 4000 in
theorem q_640 : Cond.selects RX11 yX11_where yX11_where ∈ wsL_law := wb_t3 93 rfl rfl
set_option maxRecDepth 4000 in
theorem q_641 : Cond.code yX11_where cX11_where 6 (some .int) ∈ wsL_law := wb_t3 94 rfl rfl
set_option maxRecDepth 4000 in
theorem q_642 : Cond.fieldLink RX11 177 "RingShepherds$Lump" "lane" "I" ∈ wsL_law := wb_t1 173 rfl rfl
set_option maxRecDepth 4000 in
theorem q_643 : Cond.fieldLink RX11 180 "RingShepherds$Lump" "place" "I" ∈ wsL_law := wb_t1 176 rfl rfl
set_option maxRecDepth 4000 in
theorem q_644 : Cond.fieldLink RX11 183 "RingShepherds$Lump" "touched" "I" ∈ wsL_law := wb_t1 178 rfl rfl
set_option maxRecDepth 4000 in
theorem q_645 : Cond.methodLink RX11 164 yX11_isRounds ∈ wsL_law := wb_t3 95 rfl rfl
set_option maxRecDepth 4000 in
theorem q_646 : Cond.static yX11_isRounds ∈ wsL_law := wb_t3 96 rfl rfl
set_option maxRecDepth 4000 in
theorem q_647 : Cond.code yX11_isRounds cX11_isRounds 1 (some .boolean) ∈ wsL_law := wb_t3 97 rfl rfl
set_option maxRecDepth 4000 in
theorem q_648 : Cond.methodLink RX11 167 yX0_follow ∈ wsL_law := wb_t3 98 rfl rfl
set_option maxRecDepth 4000 in
theorem q_649 : Cond.instanceMethod yX0_follow ∈ wsL_law := wb_t3 99 rfl rfl
set_option maxRecDepth 4000 in
theorem q_650 : Cond.selects RX0 yX0_follow yX0_follow ∈ wsL_law := wb_t3 100 rfl rfl
set_option maxRecDepth 4000 in
theorem q_651 : Cond.code yX0_follow cX0_follow 5 (some (.object "RingShepherds$Lump")) ∈ wsL_law := wb_t3 101 rfl rfl
set_option maxRecDepth 4000 in
theorem q_652 : Cond.methodLink RX0 41 yX2_lie ∈ wsL_law := wb_t3 102 rfl rfl
set_option maxRecDepth 4000 in
theorem q_653 : Cond.instanceMethod yX2_lie ∈ wsL_law := wb_t3 103 rfl rfl
set_option maxRecDepth 4000 in
theorem q_654 : Cond.selects RX2 yX2_lie yX2_lie ∈ wsL_law := wb_t3 104 rfl rfl
set_option maxRecDepth 4000 in
theorem q_655 : Cond.code yX2_lie cX2_lie 3 none ∈ wsL_law := wb_t3 105 rfl rfl
set_option maxRecDepth 4000 in
theorem q_656 : Cond.fieldLink RX2 7 "RingShepherds$Lump" "lane" "I" ∈ wsL_law := wb_t1 171 rfl rfl
set_option maxRecDepth 4000 in
theorem q_657 : Cond.fieldLink RX2 13 "RingShepherds$Lump" "place" "I" ∈ wsL_law := wb_t1 174 rfl rfl
set_option maxRecDepth 4000 in
theorem q_658 : Cond.fieldLink RX2 16 "RingShepherds$Lump" "touched" "I" ∈ wsL_law := wb_t1 177 rfl rfl
set_option maxRecDepth 4000 in
theorem q_659 : Cond.methodLink RX0 45 yX2_isLost ∈ wsL_law := wb_t3 106 rfl rfl
set_option maxRecDepth 4000 in
theorem q_660 : Cond.instanceMethod yX2_isLost ∈ wsL_law := wb_t3 107 rfl rfl
set_option maxRecDepth 4000 in
theorem q_661 : Cond.selects RX2 yX2_isLost yX2_isLost ∈ wsL_law := wb_t3 108 rfl rfl
set_option maxRecDepth 4000 in
theorem q_662 : Cond.code yX2_isLost cX2_isLost 1 (some .boolean) ∈ wsL_law := wb_t3 109 rfl rfl
set_option maxRecDepth 4000 in
theorem q_663 : Cond.methodLink RX0 49 yX2_goOn ∈ wsL_law := wb_t3 111 rfl rfl
set_option maxRecDepth 4000 in
theorem q_664 : Cond.instanceMethod yX2_goOn ∈ wsL_law := wb_t3 112 rfl rfl
set_option maxRecDepth 4000 in
theorem q_665 : Cond.selects RX2 yX2_goOn yX2_goOn ∈ wsL_law := wb_t3 113 rfl rfl
set_option maxRecDepth 4000 in
theorem q_666 : Cond.code yX2_goOn cX2_goOn 5 none ∈ wsL_law := wb_t3 114 rfl rfl
set_option maxRecDepth 4000 in
theorem q_667 : Cond.fieldLink RX2 29 "RingShepherds$Ring" "steps" "[I" ∈ wsL_law := wb_t1 88 rfl rfl
set_option maxRecDepth 4000 in
theorem q_668 : Cond.fieldLink RX2 39 "RingShepherds$Ring" "moons" "I" ∈ wsL_law := wb_t1 104 rfl rfl
set_option maxRecDepth 4000 in
theorem q_669 : Cond.methodLink RX2 25 yX2_isLost ∈ wsL_law := wb_t3 115 rfl rfl
set_option maxRecDepth 4000 in
theorem q_670 : Cond.methodLink RX2 35 yX5_around ∈ wsL_law := wb_t3 116 rfl rfl
set_option maxRecDepth 4000 in
theorem q_671 : Cond.methodLink RX2 42 yX5_pushOf ∈ wsL_law := wb_t3 117 rfl rfl
set_option maxRecDepth 4000 in
theorem q_672 : Cond.instanceMethod yX5_pushOf ∈ wsL_law := wb_t3 118 rfl rfl
set_option maxRecDepth 4000 in
theorem q_673 : Cond.selects RX5 yX5_pushOf yX5_pushOf ∈ wsL_law := wb_t3 119 rfl rfl
set_option maxRecDepth 4000 in
theorem q_674 : Cond.code yX5_pushOf cX5_pushOf 8 (some .int) ∈ wsL_law := wb_t3 120 rfl rfl
set_option maxRecDepth 4000 in
theorem q_675 : Cond.methodLink RX5 124 Lib.Math.min.name ∈ wsL_law := wb_t3 121 rfl rfl
set_option maxRecDepth 4000 in
theorem q_676 : Cond.methodLink RX11 171 yX2_isLost ∈ wsL_law := wb_t3 122 rfl rfl
set_option maxRecDepth 4000 in
theorem q_677 : Cond.methodLink RL 68 yX12_where ∈ wsL_law := wb_t5 46 rfl rfl
set_option maxRecDepth 4000 in
theorem q_678 : Cond.instanceMethod yX12_where ∈ wsL_law := wb_t5 47 rfl rfl
set_option maxRecDepth 4000 in
theorem q_679 : Cond.selects RX12 yX12_where yX12_where ∈ wsL_law := wb_t5 48 rfl rfl
set_option maxRecDepth 4000 in
theorem q_680 : Cond.code yX12_where cX12_where 5 (some .int) ∈ wsL_law := wb_t5 49 rfl rfl
set_option maxRecDepth 4000 in
theorem q_681 : Cond.constantLong RX12 166 (2) ∈ wsL_law := wb_t5 54 rfl rfl
set_option maxRecDepth 4000 in
theorem q_682 : Cond.fieldLink RX12 152 "RingShepherdsModel" "oneLane" "I" ∈ wsL_law := wb_t4 103 rfl rfl
set_option maxRecDepth 4000 in
theorem q_683 : Cond.fieldLink RX12 149 "RingShepherdsModel" "onePlace" "I" ∈ wsL_law := wb_t4 104 rfl rfl
set_option maxRecDepth 4000 in
theorem q_684 : Cond.fieldLink RX12 155 "RingShepherdsModel" "oneMoved" "I" ∈ wsL_law := wb_t4 105 rfl rfl
set_option maxRecDepth 4000 in
theorem q_685 : Cond.methodLink RX12 163 yX12_isLong ∈ wsL_law := wb_t5 50 rfl rfl
set_option maxRecDepth 4000 in
theorem q_686 : Cond.static yX12_isLong ∈ wsL_law := wb_t5 51 rfl rfl
set_option maxRecDepth 4000 in
theorem q_687 : Cond.code yX12_isLong cX12_isLong 1 (some .boolean) ∈ wsL_law := wb_t5 52 rfl rfl
set_option maxRecDepth 4000 in
theorem q_688 : Cond.constantLong RX12 161 (60) ∈ wsL_law := wb_t5 53 rfl rfl
set_option maxRecDepth 4000 in
theorem q_689 : Cond.methodLink RX12 168 yX12_goOneOn ∈ wsL_law := wb_t5 55 rfl rfl
set_option maxRecDepth 4000 in
theorem q_690 : Cond.instanceMethod yX12_goOneOn ∈ wsL_law := wb_t5 57 rfl rfl
theorem q_691 : Cond.selects RX12 yX12_goOneOn yX12_goOneOn ∈ wsL_law := wb_p3 (q := (⟨"RingShepherdsModel", "goOneOn", "(III)V"⟩, 25)) 7 rfl rfl rfl
set_option maxRecDepth 4000 in
theorem q_692 : Cond.code yX12_goOneOn cX12_goOneOn 5 none ∈ wsL_law := wb_t5 58 rfl rfl
set_option maxRecDepth 4000 in
theorem q_693 : Cond.methodLink RX12 158 yX12_goOne ∈ wsL_law := wb_t5 59 rfl rfl
set_option maxRecDepth 4000 in
theorem q_694 : Cond.instanceMethod yX12_goOne ∈ wsL_law := wb_t5 61 rfl rfl
theorem q_695 : Cond.selects RX12 yX12_goOne yX12_goOne ∈ wsL_law := wb_p3 (q := (⟨"RingShepherdsModel", "goOne", "()V"⟩, 25)) 8 rfl rfl rfl
set_option maxRecDepth 4000 in
theorem q_696 : Cond.code yX12_goOne cX12_goOne 2 none ∈ wsL_law := wb_t5 62 rfl rfl
set_option maxRecDepth 4000 in
theorem q_697 : Cond.methodLink RL 69 yX11_loss ∈ wsL_law := wb_t3 123 rfl rfl
set_option maxRecDepth 4000 in
theorem q_698 : Cond.instanceMethod yX11_loss ∈ wsL_law := wb_t3 124 rfl rfl
set_option maxRecDepth 4000 in
theorem q_699 : Cond.selects RX11 yX11_loss yX11_loss ∈ wsL_law := wb_t3 125 rfl rfl
set_option maxRecDepth 4000 in
theorem q_700 : Cond.code yX11_loss cX11_loss 2 (some .int) ∈ wsL_law := wb_t3 126 rfl rfl
set_option maxRecDepth 4000 in
theorem q_701 : Cond.methodLink RX11 186 yX0_lossIn ∈ wsL_law := wb_t3 127 rfl rfl
set_option maxRecDepth 4000 in
theorem q_702 : Cond.instanceMethod yX0_lossIn ∈ wsL_law := wb_t3 128 rfl rfl
set_option maxRecDepth 4000 in
theorem q_703 : Cond.selects RX0 yX0_lossIn yX0_lossIn ∈ wsL_law := wb_t3 129 rfl rfl
set_option maxRecDepth 4000 in
theorem q_704 : Cond.code yX0_lossIn cX0_lossIn 2 (some .int) ∈ wsL_law := wb_t3 130 rfl rfl
set_option maxRecDepth 4000 in
theorem q_705 : Cond.methodLink RX0 53 yX5_copy ∈ wsL_law := wb_t3 131 rfl rfl
set_option maxRecDepth 4000 in
theorem q_706 : Cond.methodLink RX0 59 yX5_goOnBy ∈ wsL_law := wb_t3 132 rfl rfl
set_option maxRecDepth 4000 in
theorem q_707 : Cond.instanceMethod yX5_goOnBy ∈ wsL_law := wb_t3 133 rfl rfl
set_option maxRecDepth 4000 in
theorem q_708 : Cond.selects RX5 yX5_goOnBy yX5_goOnBy ∈ wsL_law := wb_t3 134 rfl rfl
set_option maxRecDepth 4000 in
theorem q_709 : Cond.code yX5_goOnBy cX5_goOnBy 4 (some .int) ∈ wsL_law := wb_t3 135 rfl rfl
set_option maxRecDepth 4000 in
theorem q_710 : Cond.methodLink RX5 98 yX5_goOn ∈ wsL_law := wb_t3 136 rfl rfl
set_option maxRecDepth 4000 in
theorem q_711 : Cond.methodLink RL 72 yX12_loss ∈ wsL_law := wb_t5 63 rfl rfl
set_option maxRecDepth 4000 in
theorem q_712 : Cond.instanceMethod yX12_loss ∈ wsL_law := wb_t5 64 rfl rfl
set_option maxRecDepth 4000 in
theorem q_713 : Cond.selects RX12 yX12_loss yX12_loss ∈ wsL_law := wb_t5 65 rfl rfl
set_option maxRecDepth 4000 in
theorem q_714 : Cond.code yX12_loss cX12_loss 2 (some .int) ∈ wsL_law := wb_t5 66 rfl rfl
set_option maxRecDepth 4000 in
theorem q_715 : Cond.methodLink RX12 172 yX12_lossOf ∈ wsL_law := wb_t5 67 rfl rfl
set_option maxRecDepth 4000 in
theorem q_716 : Cond.instanceMethod yX12_lossOf ∈ wsL_law := wb_t5 69 rfl rfl
theorem q_717 : Cond.selects RX12 yX12_lossOf yX12_lossOf ∈ wsL_law := wb_p3 (q := (⟨"RingShepherdsModel", "lossOf", "(II)I"⟩, 25)) 9 rfl rfl rfl
set_option maxRecDepth 4000 in
theorem q_718 : Cond.code yX12_lossOf cX12_lossOf 5 (some .int) ∈ wsL_law := wb_t5 70 rfl rfl
set_option maxRecDepth 4000 in
theorem q_719 : Cond.methodLink RL 73 yX11_pushes ∈ wsL_law := wb_t3 137 rfl rfl
set_option maxRecDepth 4000 in
theorem q_720 : Cond.instanceMethod yX11_pushes ∈ wsL_law := wb_t3 138 rfl rfl
set_option maxRecDepth 4000 in
theorem q_721 : Cond.selects RX11 yX11_pushes yX11_pushes ∈ wsL_law := wb_t3 139 rfl rfl
set_option maxRecDepth 4000 in
theorem q_722 : Cond.code yX11_pushes cX11_pushes 2 (some .int) ∈ wsL_law := wb_t3 140 rfl rfl
set_option maxRecDepth 4000 in
theorem q_723 : Cond.methodLink RX11 189 yX0_fewestPushes ∈ wsL_law := wb_t3 141 rfl rfl
set_option maxRecDepth 4000 in
theorem q_724 : Cond.instanceMethod yX0_fewestPushes ∈ wsL_law := wb_t3 142 rfl rfl
set_option maxRecDepth 4000 in
theorem q_725 : Cond.selects RX0 yX0_fewestPushes yX0_fewestPushes ∈ wsL_law := wb_t3 143 rfl rfl
set_option maxRecDepth 4000 in
theorem q_726 : Cond.code yX0_fewestPushes cX0_fewestPushes 7 (some .int) ∈ wsL_law := wb_t3 144 rfl rfl
set_option maxRecDepth 4000 in
theorem q_727 : Cond.fieldLink RX0 63 "RingShepherds$Ring" "places" "I" ∈ wsL_law := wb_t1 101 rfl rfl
set_option maxRecDepth 4000 in
theorem q_728 : Cond.methodLink RX0 70 yJ7_fill_53178 ∈ wsL_law := wb_t3 145 rfl rfl
set_option maxRecDepth 4000 in
theorem q_729 : Cond.methodLink RX0 76 yX0_leaveInRound ∈ wsL_law := wb_t3 146 rfl rfl
set_option maxRecDepth 4000 in
theorem q_730 : Cond.instanceMethod yX0_leaveInRound ∈ wsL_law := wb_t3 148 rfl rfl
theorem q_731 : Cond.selects RX0 yX0_leaveInRound yX0_leaveInRound ∈ wsL_law := wb_p1 (q := (⟨"RingShepherds$Course", "leaveInRound", "(I)V"⟩, 8)) 14 rfl rfl rfl
set_option maxRecDepth 4000 in
theorem q_732 : Cond.code yX0_leaveInRound cX0_leaveInRound 4 none ∈ wsL_law := wb_t3 149 rfl rfl
set_option maxRecDepth 4000 in
theorem q_733 : Cond.fieldLink RX0 90 "RingShepherds$Lump" "lane" "I" ∈ wsL_law := wb_t1 172 rfl rfl
set_option maxRecDepth 4000 in
theorem q_734 : Cond.fieldLink RX0 93 "RingShepherds$Lump" "place" "I" ∈ wsL_law := wb_t1 175 rfl rfl
set_option maxRecDepth 4000 in
theorem q_735 : Cond.methodLink RX0 87 yX0_cell ∈ wsL_law := wb_t3 150 rfl rfl
set_option maxRecDepth 4000 in
theorem q_736 : Cond.static yX0_cell ∈ wsL_law := wb_t3 151 rfl rfl
set_option maxRecDepth 4000 in
theorem q_737 : Cond.code yX0_cell cX0_cell 2 (some .int) ∈ wsL_law := wb_t3 152 rfl rfl
set_option maxRecDepth 4000 in
theorem q_738 : Cond.methodLink RX0 80 yX0_pushAheadOfRound ∈ wsL_law := wb_t3 153 rfl rfl
set_option maxRecDepth 4000 in
theorem q_739 : Cond.instanceMethod yX0_pushAheadOfRound ∈ wsL_law := wb_t3 155 rfl rfl
theorem q_740 : Cond.selects RX0 yX0_pushAheadOfRound yX0_pushAheadOfRound ∈ wsL_law := wb_p1 (q := (⟨"RingShepherds$Course", "pushAheadOfRound", "()V"⟩, 8)) 15 rfl rfl rfl
set_option maxRecDepth 4000 in
theorem q_741 : Cond.code yX0_pushAheadOfRound cX0_pushAheadOfRound 4 none ∈ wsL_law := wb_t3 156 rfl rfl
set_option maxRecDepth 4000 in
theorem q_742 : Cond.methodLink RX0 99 Lib.Math.min.name ∈ wsL_law := wb_t3 162 rfl rfl
set_option maxRecDepth 4000 in
theorem q_743 : Cond.methodLink RX0 96 yX0_costIfLeft ∈ wsL_law := wb_t3 157 rfl rfl
set_option maxRecDepth 4000 in
theorem q_744 : Cond.instanceMethod yX0_costIfLeft ∈ wsL_law := wb_t3 159 rfl rfl
theorem q_745 : Cond.selects RX0 yX0_costIfLeft yX0_costIfLeft ∈ wsL_law := wb_p2 (q := (⟨"RingShepherds$Course", "costIfLeft", "(II)I"⟩, 8)) 0 rfl rfl rfl
set_option maxRecDepth 4000 in
theorem q_746 : Cond.code yX0_costIfLeft cX0_costIfLeft 3 (some .int) ∈ wsL_law := wb_t3 160 rfl rfl
set_option maxRecDepth 4000 in
theorem q_747 : Cond.methodLink RX0 83 yX5_lumpsAt ∈ wsL_law := wb_t3 163 rfl rfl
set_option maxRecDepth 4000 in
theorem q_748 : Cond.methodLink RL 76 yX12_pushes ∈ wsL_law := wb_t5 71 rfl rfl
set_option maxRecDepth 4000 in
theorem q_749 : Cond.instanceMethod yX12_pushes ∈ wsL_law := wb_t5 72 rfl rfl
set_option maxRecDepth 4000 in
theorem q_750 : Cond.selects RX12 yX12_pushes yX12_pushes ∈ wsL_law := wb_t5 73 rfl rfl
set_option maxRecDepth 4000 in
theorem q_751 : Cond.code yX12_pushes cX12_pushes 9 (some .int) ∈ wsL_law := wb_t5 74 rfl rfl
set_option maxRecDepth 4000 in
theorem q_752 : Cond.constantLong RX12 175 (12) ∈ wsL_law := wb_t5 75 rfl rfl
set_option maxRecDepth 4000 in
theorem q_753 : Cond.constant RX12 177 (100000000) ∈ wsL_law := wb_t5 76 rfl rfl
set_option maxRecDepth 4000 in
theorem q_754 : Cond.methodLink RX12 178 yX12_behind ∈ wsL_law := wb_t5 77 rfl rfl
set_option maxRecDepth 4000 in
theorem q_755 : Cond.instanceMethod yX12_behind ∈ wsL_law := wb_t5 79 rfl rfl
theorem q_756 : Cond.selects RX12 yX12_behind yX12_behind ∈ wsL_law := wb_p3 (q := (⟨"RingShepherdsModel", "behind", "(III)I"⟩, 25)) 10 rfl rfl rfl
set_option maxRecDepth 4000 in
theorem q_757 : Cond.code yX12_behind cX12_behind 5 (some .int) ∈ wsL_law := wb_t5 80 rfl rfl
set_option maxRecDepth 4000 in
theorem q_758 : Cond.methodLink RL 77 yX11_moved ∈ wsL_law := wb_t3 164 rfl rfl
set_option maxRecDepth 4000 in
theorem q_759 : Cond.instanceMethod yX11_moved ∈ wsL_law := wb_t3 165 rfl rfl
set_option maxRecDepth 4000 in
theorem q_760 : Cond.selects RX11 yX11_moved yX11_moved ∈ wsL_law := wb_t3 166 rfl rfl
set_option maxRecDepth 4000 in
theorem q_761 : Cond.code yX11_moved cX11_moved 3 (some .int) ∈ wsL_law := wb_t3 167 rfl rfl
set_option maxRecDepth 4000 in
theorem q_762 : Cond.methodLink RX11 192 yX0_bestMove ∈ wsL_law := wb_t3 168 rfl rfl
set_option maxRecDepth 4000 in
theorem q_763 : Cond.instanceMethod yX0_bestMove ∈ wsL_law := wb_t3 169 rfl rfl
set_option maxRecDepth 4000 in
theorem q_764 : Cond.selects RX0 yX0_bestMove yX0_bestMove ∈ wsL_law := wb_t3 170 rfl rfl
set_option maxRecDepth 4000 in
theorem q_765 : Cond.code yX0_bestMove cX0_bestMove 7 (some .int) ∈ wsL_law := wb_t3 171 rfl rfl
set_option maxRecDepth 4000 in
theorem q_766 : Cond.methodLink RX0 67 yX5_moveMoon ∈ wsL_law := wb_t3 172 rfl rfl
set_option maxRecDepth 4000 in
theorem q_767 : Cond.methodLink RL 80 yX12_moved ∈ wsL_law := wb_t5 81 rfl rfl
set_option maxRecDepth 4000 in
theorem q_768 : Cond.instanceMethod yX12_moved ∈ wsL_law := wb_t5 82 rfl rfl
set_option maxRecDepth 4000 in
theorem q_769 : Cond.selects RX12 yX12_moved yX12_moved ∈ wsL_law := wb_t5 83 rfl rfl
set_option maxRecDepth 4000 in
theorem q_770 : Cond.code yX12_moved cX12_moved 9 (some .int) ∈ wsL_law := wb_t5 84 rfl rfl
set_option maxRecDepth 4000 in
theorem q_771 : Cond.methodLink RL 81 yX11_road ∈ wsL_law := wb_t3 173 rfl rfl
set_option maxRecDepth 4000 in
theorem q_772 : Cond.instanceMethod yX11_road ∈ wsL_law := wb_t3 174 rfl rfl
set_option maxRecDepth 4000 in
theorem q_773 : Cond.selects RX11 yX11_road yX11_road ∈ wsL_law := wb_t3 175 rfl rfl
set_option maxRecDepth 4000 in
theorem q_774 : Cond.code yX11_road cX11_road 5 (some .int) ∈ wsL_law := wb_t3 176 rfl rfl
set_option maxRecDepth 4000 in
theorem q_775 : Cond.methodLink RX11 195 yX0_roadOpens ∈ wsL_law := wb_t3 177 rfl rfl
set_option maxRecDepth 4000 in
theorem q_776 : Cond.instanceMethod yX0_roadOpens ∈ wsL_law := wb_t3 178 rfl rfl
set_option maxRecDepth 4000 in
theorem q_777 : Cond.selects RX0 yX0_roadOpens yX0_roadOpens ∈ wsL_law := wb_t3 179 rfl rfl
set_option maxRecDepth 4000 in
theorem q_778 : Cond.code yX0_roadOpens cX0_roadOpens 4 (some .int) ∈ wsL_law := wb_t3 180 rfl rfl
set_option maxRecDepth 4000 in
theorem q_779 : Cond.methodLink RX0 108 yX5_isClear ∈ wsL_law := wb_t3 181 rfl rfl
set_option maxRecDepth 4000 in
theorem q_780 : Cond.instanceMethod yX5_isClear ∈ wsL_law := wb_t3 182 rfl rfl
set_option maxRecDepth 4000 in
theorem q_781 : Cond.selects RX5 yX5_isClear yX5_isClear ∈ wsL_law := wb_t3 183 rfl rfl
set_option maxRecDepth 4000 in
theorem q_782 : Cond.code yX5_isClear cX5_isClear 3 (some .boolean) ∈ wsL_law := wb_t3 184 rfl rfl
set_option maxRecDepth 4000 in
theorem q_783 : Cond.methodLink RX5 81 yX5_lumpsAt ∈ wsL_law := wb_t3 185 rfl rfl
set_option maxRecDepth 4000 in
theorem q_784 : Cond.methodLink RX0 111 yX5_goOn ∈ wsL_law := wb_t3 186 rfl rfl
set_option maxRecDepth 4000 in
theorem q_785 : Cond.methodLink RX11 198 yX0_roadLasts ∈ wsL_law := wb_t3 187 rfl rfl
set_option maxRecDepth 4000 in
theorem q_786 : Cond.instanceMethod yX0_roadLasts ∈ wsL_law := wb_t3 188 rfl rfl
set_option maxRecDepth 4000 in
theorem q_787 : Cond.selects RX0 yX0_roadLasts yX0_roadLasts ∈ wsL_law := wb_t3 189 rfl rfl
set_option maxRecDepth 4000 in
theorem q_788 : Cond.code yX0_roadLasts cX0_roadLasts 5 (some .int) ∈ wsL_law := wb_t3 190 rfl rfl
set_option maxRecDepth 4000 in
theorem q_789 : Cond.methodLink RL 84 yX12_road ∈ wsL_law := wb_t5 85 rfl rfl
set_option maxRecDepth 4000 in
theorem q_790 : Cond.instanceMethod yX12_road ∈ wsL_law := wb_t5 86 rfl rfl
set_option maxRecDepth 4000 in
theorem q_791 : Cond.selects RX12 yX12_road yX12_road ∈ wsL_law := wb_t5 87 rfl rfl
set_option maxRecDepth 4000 in
theorem q_792 : Cond.code yX12_road cX12_road 10 (some .int) ∈ wsL_law := wb_t5 88 rfl rfl
set_option maxRecDepth 4000 in
theorem q_793 : Cond.methodLink RX12 182 yX12_isRoad ∈ wsL_law := wb_t5 89 rfl rfl
set_option maxRecDepth 4000 in
theorem q_794 : Cond.instanceMethod yX12_isRoad ∈ wsL_law := wb_t5 91 rfl rfl
theorem q_795 : Cond.selects RX12 yX12_isRoad yX12_isRoad ∈ wsL_law := wb_p3 (q := (⟨"RingShepherdsModel", "isRoad", "(I)Z"⟩, 25)) 11 rfl rfl rfl
set_option maxRecDepth 4000 in
theorem q_796 : Cond.code yX12_isRoad cX12_isRoad 4 (some .boolean) ∈ wsL_law := wb_t5 92 rfl rfl
set_option maxRecDepth 4000 in
theorem q_797 : Cond.methodLink RL 85 yX11_back ∈ wsL_law := wb_t3 191 rfl rfl
set_option maxRecDepth 4000 in
theorem q_798 : Cond.instanceMethod yX11_back ∈ wsL_law := wb_t3 192 rfl rfl
set_option maxRecDepth 4000 in
theorem q_799 : Cond.selects RX11 yX11_back yX11_back ∈ wsL_law := wb_t3 193 rfl rfl
set_option maxRecDepth 4000 in
theorem q_800 : Cond.code yX11_back cX11_back 1 (some .int) ∈ wsL_law := wb_t3 194 rfl rfl
set_option maxRecDepth 4000 in
theorem q_801 : Cond.methodLink RX11 202 yX5_comesRound ∈ wsL_law := wb_t3 195 rfl rfl
set_option maxRecDepth 4000 in
theorem q_802 : Cond.instanceMethod yX5_comesRound ∈ wsL_law := wb_t3 196 rfl rfl
set_option maxRecDepth 4000 in
theorem q_803 : Cond.selects RX5 yX5_comesRound yX5_comesRound ∈ wsL_law := wb_t3 197 rfl rfl
set_option maxRecDepth 4000 in
theorem q_804 : Cond.code yX5_comesRound cX5_comesRound 2 (some .int) ∈ wsL_law := wb_t3 198 rfl rfl
set_option maxRecDepth 4000 in
theorem q_805 : Cond.methodLink RX5 129 yX5_isRoundBehind ∈ wsL_law := wb_t3 199 rfl rfl
set_option maxRecDepth 4000 in
theorem q_806 : Cond.instanceMethod yX5_isRoundBehind ∈ wsL_law := wb_t3 201 rfl rfl
theorem q_807 : Cond.selects RX5 yX5_isRoundBehind yX5_isRoundBehind ∈ wsL_law := wb_p2 (q := (⟨"RingShepherds$Ring", "isRoundBehind", "(I)Z"⟩, 13)) 1 rfl rfl rfl
set_option maxRecDepth 4000 in
theorem q_808 : Cond.code yX5_isRoundBehind cX5_isRoundBehind 3 (some .boolean) ∈ wsL_law := wb_t3 202 rfl rfl
set_option maxRecDepth 4000 in
theorem q_809 : Cond.methodLink RL 88 yX12_back ∈ wsL_law := wb_t5 93 rfl rfl
set_option maxRecDepth 4000 in
theorem q_810 : Cond.instanceMethod yX12_back ∈ wsL_law := wb_t5 94 rfl rfl
set_option maxRecDepth 4000 in
theorem q_811 : Cond.selects RX12 yX12_back yX12_back ∈ wsL_law := wb_t5 95 rfl rfl
set_option maxRecDepth 4000 in
theorem q_812 : Cond.code yX12_back cX12_back 4 (some .int) ∈ wsL_law := wb_t5 96 rfl rfl
set_option maxRecDepth 4000 in
theorem q_813 : Cond.methodLink RX12 188 yX12_turns ∈ wsL_law := wb_t5 97 rfl rfl
set_option maxRecDepth 4000 in
theorem q_814 : Cond.instanceMethod yX12_turns ∈ wsL_law := wb_t5 99 rfl rfl
theorem q_815 : Cond.selects RX12 yX12_turns yX12_turns ∈ wsL_law := wb_p3 (q := (⟨"RingShepherdsModel", "turns", "(I)I"⟩, 25)) 12 rfl rfl rfl
set_option maxRecDepth 4000 in
theorem q_816 : Cond.code yX12_turns cX12_turns 2 (some .int) ∈ wsL_law := wb_t5 100 rfl rfl
set_option maxRecDepth 4000 in
theorem q_817 : Cond.methodLink RX12 185 yX12_common ∈ wsL_law := wb_t5 101 rfl rfl
set_option maxRecDepth 4000 in
theorem q_818 : Cond.static yX12_common ∈ wsL_law := wb_t5 102 rfl rfl
set_option maxRecDepth 4000 in
theorem q_819 : Cond.code yX12_common cX12_common 5 (some .int) ∈ wsL_law := wb_t5 103 rfl rfl
set_option maxRecDepth 4000 in
theorem q_820 : Cond.methodLink RL 89 yX11_told ∈ wsL_law := wb_t3 203 rfl rfl
set_option maxRecDepth 4000 in
theorem q_821 : Cond.instanceMethod yX11_told ∈ wsL_law := wb_t3 204 rfl rfl
set_option maxRecDepth 4000 in
theorem q_822 : Cond.selects RX11 yX11_told yX11_told ∈ wsL_law := wb_t3 205 rfl rfl
set_option maxRecDepth 4000 in
theorem q_823 : Cond.code yX11_told cX11_told 4 (some .int) ∈ wsL_law := wb_t3 206 rfl rfl
set_option maxRecDepth 4000 in
theorem q_824 : Cond.fieldLink RX11 205 "RingShepherds$Ring" "counts" "[I" ∈ wsL_law := wb_t1 92 rfl rfl
set_option maxRecDepth 4000 in
theorem q_825 : Cond.methodLink RL 92 yX12_told ∈ wsL_law := wb_t5 104 rfl rfl
set_option maxRecDepth 4000 in
theorem q_826 : Cond.instanceMethod yX12_told ∈ wsL_law := wb_t5 105 rfl rfl
set_option maxRecDepth 4000 in
theorem q_827 : Cond.selects RX12 yX12_told yX12_told ∈ wsL_law := wb_t5 106 rfl rfl
set_option maxRecDepth 4000 in
theorem q_828 : Cond.code yX12_told cX12_told 4 (some .int) ∈ wsL_law := wb_t5 107 rfl rfl
set_option maxRecDepth 4000 in
theorem q_829 : Cond.constantLong RX12 191 (9999) ∈ wsL_law := wb_t5 108 rfl rfl
set_option maxRecDepth 4000 in
theorem q_830 : Cond.methodLink RL 93 yX11_taken ∈ wsL_law := wb_t3 207 rfl rfl
set_option maxRecDepth 4000 in
theorem q_831 : Cond.instanceMethod yX11_taken ∈ wsL_law := wb_t3 208 rfl rfl
set_option maxRecDepth 4000 in
theorem q_832 : Cond.selects RX11 yX11_taken yX11_taken ∈ wsL_law := wb_t3 209 rfl rfl
set_option maxRecDepth 4000 in
theorem q_833 : Cond.code yX11_taken cX11_taken 4 (some .int) ∈ wsL_law := wb_t3 210 rfl rfl
set_option maxRecDepth 4000 in
theorem q_834 : Cond.methodLink RX11 208 yX0_findTaken ∈ wsL_law := wb_t3 211 rfl rfl
set_option maxRecDepth 4000 in
theorem q_835 : Cond.instanceMethod yX0_findTaken ∈ wsL_law := wb_t3 212 rfl rfl
set_option maxRecDepth 4000 in
theorem q_836 : Cond.selects RX0 yX0_findTaken yX0_findTaken ∈ wsL_law := wb_t3 213 rfl rfl
set_option maxRecDepth 4000 in
theorem q_837 : Cond.code yX0_findTaken cX0_findTaken 5 (some .int) ∈ wsL_law := wb_t3 214 rfl rfl
set_option maxRecDepth 4000 in
theorem q_838 : Cond.methodLink RX0 114 yX0_fitsWithout ∈ wsL_law := wb_t3 215 rfl rfl
set_option maxRecDepth 4000 in
theorem q_839 : Cond.instanceMethod yX0_fitsWithout ∈ wsL_law := wb_t3 217 rfl rfl
theorem q_840 : Cond.selects RX0 yX0_fitsWithout yX0_fitsWithout ∈ wsL_law := wb_p2 (q := (⟨"RingShepherds$Course", "fitsWithout", "(III)Z"⟩, 8)) 2 rfl rfl rfl
set_option maxRecDepth 4000 in
theorem q_841 : Cond.code yX0_fitsWithout cX0_fitsWithout 7 (some .boolean) ∈ wsL_law := wb_t3 218 rfl rfl
set_option maxRecDepth 4000 in
theorem q_842 : Cond.fieldLink RX0 125 "RingShepherds$Ring" "counts" "[I" ∈ wsL_law := wb_t1 91 rfl rfl
set_option maxRecDepth 4000 in
theorem q_843 : Cond.methodLink RX0 118 yX0_follow ∈ wsL_law := wb_t3 219 rfl rfl
set_option maxRecDepth 4000 in
theorem q_844 : Cond.methodLink RX0 122 yX5_lumpsIn ∈ wsL_law := wb_t3 220 rfl rfl
set_option maxRecDepth 4000 in
theorem q_845 : Cond.methodLink RX11 211 yX0_takenAt ∈ wsL_law := wb_t3 221 rfl rfl
set_option maxRecDepth 4000 in
theorem q_846 : Cond.instanceMethod yX0_takenAt ∈ wsL_law := wb_t3 222 rfl rfl
set_option maxRecDepth 4000 in
theorem q_847 : Cond.selects RX0 yX0_takenAt yX0_takenAt ∈ wsL_law := wb_t3 223 rfl rfl
set_option maxRecDepth 4000 in
theorem q_848 : Cond.code yX0_takenAt cX0_takenAt 2 (some .int) ∈ wsL_law := wb_t3 224 rfl rfl
set_option maxRecDepth 4000 in
theorem q_849 : Cond.methodLink RL 96 yX12_taken ∈ wsL_law := wb_t5 109 rfl rfl
set_option maxRecDepth 4000 in
theorem q_850 : Cond.instanceMethod yX12_taken ∈ wsL_law := wb_t5 110 rfl rfl
set_option maxRecDepth 4000 in
theorem q_851 : Cond.selects RX12 yX12_taken yX12_taken ∈ wsL_law := wb_t5 111 rfl rfl
set_option maxRecDepth 4000 in
theorem q_852 : Cond.code yX12_taken cX12_taken 8 (some .int) ∈ wsL_law := wb_t5 112 rfl rfl
set_option maxRecDepth 4000 in
theorem q_853 : Cond.methodLink RX12 193 yX12_isTold ∈ wsL_law := wb_t5 113 rfl rfl
set_option maxRecDepth 4000 in
theorem q_854 : Cond.instanceMethod yX12_isTold ∈ wsL_law := wb_t5 115 rfl rfl
theorem q_855 : Cond.selects RX12 yX12_isTold yX12_isTold ∈ wsL_law := wb_p3 (q := (⟨"RingShepherdsModel", "isTold", "(II)Z"⟩, 25)) 13 rfl rfl rfl
set_option maxRecDepth 4000 in
theorem q_856 : Cond.code yX12_isTold cX12_isTold 5 (some .boolean) ∈ wsL_law := wb_t5 116 rfl rfl
set_option maxRecDepth 4000 in
theorem q_857 : Cond.methodLink RL 97 yX11_game ∈ wsL_law := wb_t3 225 rfl rfl
set_option maxRecDepth 4000 in
theorem q_858 : Cond.instanceMethod yX11_game ∈ wsL_law := wb_t3 226 rfl rfl
set_option maxRecDepth 4000 in
theorem q_859 : Cond.selects RX11 yX11_game yX11_game ∈ wsL_law := wb_t3 227 rfl rfl
set_option maxRecDepth 4000 in
theorem q_860 : Cond.code yX11_game cX11_game 3 (some .int) ∈ wsL_law := wb_t3 228 rfl rfl
set_option maxRecDepth 4000 in
theorem q_861 : Cond.constant RX11 214 (-100000) ∈ wsL_law := wb_t3 229 rfl rfl
set_option maxRecDepth 4000 in
theorem q_862 : Cond.methodLink RX11 215 yX0_farmerAhead ∈ wsL_law := wb_t3 230 rfl rfl
set_option maxRecDepth 4000 in
theorem q_863 : Cond.instanceMethod yX0_farmerAhead ∈ wsL_law := wb_t3 231 rfl rfl
set_option maxRecDepth 4000 in
theorem q_864 : Cond.selects RX0 yX0_farmerAhead yX0_farmerAhead ∈ wsL_law := wb_t3 232 rfl rfl
set_option maxRecDepth 4000 in
theorem q_865 : Cond.code yX0_farmerAhead cX0_farmerAhead 2 (some .int) ∈ wsL_law := wb_t3 233 rfl rfl
set_option maxRecDepth 4000 in
theorem q_866 : Cond.methodLink RX0 128 yX0_sumLanes ∈ wsL_law := wb_t3 234 rfl rfl
set_option maxRecDepth 4000 in
theorem q_867 : Cond.instanceMethod yX0_sumLanes ∈ wsL_law := wb_t3 236 rfl rfl
theorem q_868 : Cond.selects RX0 yX0_sumLanes yX0_sumLanes ∈ wsL_law := wb_p2 (q := (⟨"RingShepherds$Course", "sumLanes", "()V"⟩, 8)) 3 rfl rfl rfl
set_option maxRecDepth 4000 in
theorem q_869 : Cond.code yX0_sumLanes cX0_sumLanes 2 none ∈ wsL_law := wb_t3 237 rfl rfl
set_option maxRecDepth 4000 in
theorem q_870 : Cond.methodLink RX0 131 yX0_aheadBy ∈ wsL_law := wb_t3 238 rfl rfl
set_option maxRecDepth 4000 in
theorem q_871 : Cond.static yX0_aheadBy ∈ wsL_law := wb_t3 239 rfl rfl
set_option maxRecDepth 4000 in
theorem q_872 : Cond.code yX0_aheadBy cX0_aheadBy 7 (some .int) ∈ wsL_law := wb_t4 0 rfl rfl
set_option maxRecDepth 4000 in
theorem q_873 : Cond.methodLink RX11 218 yX0_firstTaken ∈ wsL_law := wb_t4 1 rfl rfl
set_option maxRecDepth 4000 in
theorem q_874 : Cond.instanceMethod yX0_firstTaken ∈ wsL_law := wb_t4 2 rfl rfl
set_option maxRecDepth 4000 in
theorem q_875 : Cond.selects RX0 yX0_firstTaken yX0_firstTaken ∈ wsL_law := wb_t4 3 rfl rfl
set_option maxRecDepth 4000 in
theorem q_876 : Cond.code yX0_firstTaken cX0_firstTaken 4 (some .int) ∈ wsL_law := wb_t4 4 rfl rfl
set_option maxRecDepth 4000 in
theorem q_877 : Cond.methodLink RX0 135 yX0_farmerAhead ∈ wsL_law := wb_t4 5 rfl rfl
set_option maxRecDepth 4000 in
theorem q_878 : Cond.methodLink RL 100 yX12_game ∈ wsL_law := wb_t5 117 rfl rfl
set_option maxRecDepth 4000 in
theorem q_879 : Cond.instanceMethod yX12_game ∈ wsL_law := wb_t5 118 rfl rfl
set_option maxRecDepth 4000 in
theorem q_880 : Cond.selects RX12 yX12_game yX12_game ∈ wsL_law := wb_t5 119 rfl rfl
set_option maxRecDepth 4000 in
theorem q_881 : Cond.code yX12_game cX12_game 12 (some .int) ∈ wsL_law := wb_t5 120 rfl rfl
set_option maxRecDepth 4000 in
theorem q_882 : Cond.constantLong RX12 196 (6) ∈ wsL_law := wb_t5 121 rfl rfl
set_option maxRecDepth 4000 in
theorem q_883 : Cond.constant RX12 198 (-100000) ∈ wsL_law := wb_t5 122 rfl rfl
set_option maxRecDepth 4000 in
theorem q_884 : Cond.constant RX12 202 (-100000000) ∈ wsL_law := wb_t5 127 rfl rfl
set_option maxRecDepth 4000 in
theorem q_885 : Cond.methodLink RX12 199 yX12_laneSum ∈ wsL_law := wb_t5 123 rfl rfl
set_option maxRecDepth 4000 in
theorem q_886 : Cond.instanceMethod yX12_laneSum ∈ wsL_law := wb_t5 125 rfl rfl
theorem q_887 : Cond.selects RX12 yX12_laneSum yX12_laneSum ∈ wsL_law := wb_p3 (q := (⟨"RingShepherdsModel", "laneSum", "(I)I"⟩, 25)) 14 rfl rfl rfl
set_option maxRecDepth 4000 in
theorem q_888 : Cond.code yX12_laneSum cX12_laneSum 2 (some .int) ∈ wsL_law := wb_t5 126 rfl rfl
set_option maxRecDepth 4000 in
theorem q_889 : Cond.methodLink RL 101 yX11_fee ∈ wsL_law := wb_t4 6 rfl rfl
set_option maxRecDepth 4000 in
theorem q_890 : Cond.instanceMethod yX11_fee ∈ wsL_law := wb_t4 7 rfl rfl
set_option maxRecDepth 4000 in
theorem q_891 : Cond.selects RX11 yX11_fee yX11_fee ∈ wsL_law := wb_t4 8 rfl rfl
set_option maxRecDepth 4000 in
theorem q_892 : Cond.code yX11_fee cX11_fee 9 (some .int) ∈ wsL_law := wb_t4 9 rfl rfl
set_option maxRecDepth 4000 in
theorem q_893 : Cond.fieldLink RX11 225 "RingShepherds" "FACTORIALS" "[I" ∈ wsL_law := wb_t4 31 rfl rfl
set_option maxRecDepth 4000 in
theorem q_894 : Cond.methodLink RX11 221 yX0_addedInAllOrders ∈ wsL_law := wb_t4 10 rfl rfl
set_option maxRecDepth 4000 in
theorem q_895 : Cond.instanceMethod yX0_addedInAllOrders ∈ wsL_law := wb_t4 11 rfl rfl
set_option maxRecDepth 4000 in
theorem q_896 : Cond.selects RX0 yX0_addedInAllOrders yX0_addedInAllOrders ∈ wsL_law := wb_t4 12 rfl rfl
set_option maxRecDepth 4000 in
theorem q_897 : Cond.code yX0_addedInAllOrders cX0_addedInAllOrders 8 (some .long) ∈ wsL_law := wb_t4 13 rfl rfl
set_option maxRecDepth 4000 in
theorem q_898 : Cond.fieldLink RX0 138 "RingShepherds$Ring" "moons" "I" ∈ wsL_law := wb_t1 107 rfl rfl
set_option maxRecDepth 4000 in
theorem q_899 : Cond.methodLink RX0 141 yX5_keepMoons ∈ wsL_law := wb_t4 14 rfl rfl
set_option maxRecDepth 4000 in
theorem q_900 : Cond.instanceMethod yX5_keepMoons ∈ wsL_law := wb_t4 15 rfl rfl
set_option maxRecDepth 4000 in
theorem q_901 : Cond.selects RX5 yX5_keepMoons yX5_keepMoons ∈ wsL_law := wb_t4 16 rfl rfl
set_option maxRecDepth 4000 in
theorem q_902 : Cond.code yX5_keepMoons cX5_keepMoons 4 none ∈ wsL_law := wb_t4 17 rfl rfl
set_option maxRecDepth 4000 in
theorem q_903 : Cond.methodLink RX5 87 yX5_addMoon ∈ wsL_law := wb_t4 18 rfl rfl
set_option maxRecDepth 4000 in
theorem q_904 : Cond.methodLink RX0 144 yX0_ordersBehind ∈ wsL_law := wb_t4 19 rfl rfl
set_option maxRecDepth 4000 in
theorem q_905 : Cond.instanceMethod yX0_ordersBehind ∈ wsL_law := wb_t4 21 rfl rfl
theorem q_906 : Cond.selects RX0 yX0_ordersBehind yX0_ordersBehind ∈ wsL_law := wb_p2 (q := (⟨"RingShepherds$Course", "ordersBehind", "(I)J"⟩, 8)) 4 rfl rfl rfl
set_option maxRecDepth 4000 in
theorem q_907 : Cond.code yX0_ordersBehind cX0_ordersBehind 4 (some .long) ∈ wsL_law := wb_t4 22 rfl rfl
set_option maxRecDepth 4000 in
theorem q_908 : Cond.methodLink RX0 148 yJ6_bitCount_0f7a4 ∈ wsL_law := wb_t4 23 rfl rfl
set_option maxRecDepth 4000 in
theorem q_909 : Cond.static yJ6_bitCount_0f7a4 ∈ wsL_law := wb_t4 24 rfl rfl
set_option maxRecDepth 4000 in
theorem q_910 : Cond.initialized RJ6 ∈ wsL_law := wb_t1 21 rfl rfl
set_option maxRecDepth 4000 in
theorem q_911 : Cond.code yJ6_bitCount_0f7a4 cJ6_bitCount_0f7a4 1 (some .int) ∈ wsL_law := wb_t4 25 rfl rfl
set_option maxRecDepth 4000 in
theorem q_912 : Cond.constant RJ6 265 (1431655765) ∈ wsL_law := wb_t4 26 rfl rfl
set_option maxRecDepth 4000 in
theorem q_913 : Cond.constant RJ6 266 (858993459) ∈ wsL_law := wb_t4 27 rfl rfl
set_option maxRecDepth 4000 in
theorem q_914 : Cond.constant RJ6 267 (252645135) ∈ wsL_law := wb_t4 28 rfl rfl
set_option maxRecDepth 4000 in
theorem q_915 : Cond.methodLink RX11 234 yX11_greatestDivisor ∈ wsL_law := wb_t4 35 rfl rfl
set_option maxRecDepth 4000 in
theorem q_916 : Cond.static yX11_greatestDivisor ∈ wsL_law := wb_t4 36 rfl rfl
set_option maxRecDepth 4000 in
theorem q_917 : Cond.code yX11_greatestDivisor cX11_greatestDivisor 11 (some .long) ∈ wsL_law := wb_t4 37 rfl rfl
set_option maxRecDepth 4000 in
theorem q_918 : Cond.methodLink RL 104 yX12_fee ∈ wsL_law := wb_t5 128 rfl rfl
set_option maxRecDepth 4000 in
theorem q_919 : Cond.instanceMethod yX12_fee ∈ wsL_law := wb_t5 129 rfl rfl
set_option maxRecDepth 4000 in
theorem q_920 : Cond.selects RX12 yX12_fee yX12_fee ∈ wsL_law := wb_t5 130 rfl rfl
set_option maxRecDepth 4000 in
theorem q_921 : Cond.code yX12_fee cX12_fee 13 (some .int) ∈ wsL_law := wb_t5 131 rfl rfl
set_option maxRecDepth 4000 in
theorem q_922 : Cond.fieldLink RX12 209 "RingShepherdsModel" "above" "J" ∈ wsL_law := wb_t4 96 rfl rfl
set_option maxRecDepth 4000 in
theorem q_923 : Cond.methodLink RX12 203 yX12_bits ∈ wsL_law := wb_t5 132 rfl rfl
set_option maxRecDepth 4000 in
theorem q_924 : Cond.static yX12_bits ∈ wsL_law := wb_t5 133 rfl rfl
set_option maxRecDepth 4000 in
theorem q_925 : Cond.code yX12_bits cX12_bits 3 (some .int) ∈ wsL_law := wb_t5 134 rfl rfl
set_option maxRecDepth 4000 in
theorem q_926 : Cond.methodLink RX12 206 yX12_factorial ∈ wsL_law := wb_t5 135 rfl rfl
set_option maxRecDepth 4000 in
theorem q_927 : Cond.static yX12_factorial ∈ wsL_law := wb_t5 136 rfl rfl
set_option maxRecDepth 4000 in
theorem q_928 : Cond.code yX12_factorial cX12_factorial 3 (some .int) ∈ wsL_law := wb_t5 137 rfl rfl
set_option maxRecDepth 4000 in
theorem q_929 : Cond.methodLink RL 105 yX11_part ∈ wsL_law := wb_t4 38 rfl rfl
set_option maxRecDepth 4000 in
theorem q_930 : Cond.instanceMethod yX11_part ∈ wsL_law := wb_t4 39 rfl rfl
set_option maxRecDepth 4000 in
theorem q_931 : Cond.selects RX11 yX11_part yX11_part ∈ wsL_law := wb_t4 40 rfl rfl
set_option maxRecDepth 4000 in
theorem q_932 : Cond.code yX11_part cX11_part 2 (some .long) ∈ wsL_law := wb_t4 41 rfl rfl
set_option maxRecDepth 4000 in
theorem q_933 : Cond.methodLink RL 109 yX12_part ∈ wsL_law := wb_t5 190 rfl rfl
set_option maxRecDepth 4000 in
theorem q_934 : Cond.instanceMethod yX12_part ∈ wsL_law := wb_t5 191 rfl rfl
set_option maxRecDepth 4000 in
theorem q_935 : Cond.selects RX12 yX12_part yX12_part ∈ wsL_law := wb_t5 192 rfl rfl
set_option maxRecDepth 4000 in
theorem q_936 : Cond.code yX12_part cX12_part 2 (some .long) ∈ wsL_law := wb_t5 193 rfl rfl
set_option maxRecDepth 4000 in
theorem q_937 : Cond.methodLink RL 110 yX11_image ∈ wsL_law := wb_t4 42 rfl rfl
set_option maxRecDepth 4000 in
theorem q_938 : Cond.instanceMethod yX11_image ∈ wsL_law := wb_t4 43 rfl rfl
set_option maxRecDepth 4000 in
theorem q_939 : Cond.selects RX11 yX11_image yX11_image ∈ wsL_law := wb_t4 44 rfl rfl
set_option maxRecDepth 4000 in
theorem q_940 : Cond.code yX11_image cX11_image 2 (some .int) ∈ wsL_law := wb_t4 45 rfl rfl
set_option maxRecDepth 4000 in
theorem q_941 : Cond.methodLink RX11 238 yX7_copy ∈ wsL_law := wb_t4 46 rfl rfl
set_option maxRecDepth 4000 in
theorem q_942 : Cond.instanceMethod yX7_copy ∈ wsL_law := wb_t4 47 rfl rfl
set_option maxRecDepth 4000 in
theorem q_943 : Cond.selects RX7 yX7_copy yX7_copy ∈ wsL_law := wb_t4 48 rfl rfl
set_option maxRecDepth 4000 in
theorem q_944 : Cond.code yX7_copy cX7_copy 3 none ∈ wsL_law := wb_t4 49 rfl rfl
set_option maxRecDepth 4000 in
theorem q_945 : Cond.methodLink RL 113 yX12_image ∈ wsL_law := wb_t5 194 rfl rfl
set_option maxRecDepth 4000 in
theorem q_946 : Cond.instanceMethod yX12_image ∈ wsL_law := wb_t5 195 rfl rfl
set_option maxRecDepth 4000 in
theorem q_947 : Cond.selects RX12 yX12_image yX12_image ∈ wsL_law := wb_t5 196 rfl rfl
set_option maxRecDepth 4000 in
theorem q_948 : Cond.code yX12_image cX12_image 3 (some .int) ∈ wsL_law := wb_t5 197 rfl rfl
set_option maxRecDepth 4000 in
theorem q_949 : Cond.methodLink RL 114 yX11_from ∈ wsL_law := wb_t4 50 rfl rfl
set_option maxRecDepth 4000 in
theorem q_950 : Cond.instanceMethod yX11_from ∈ wsL_law := wb_t4 51 rfl rfl
set_option maxRecDepth 4000 in
theorem q_951 : Cond.selects RX11 yX11_from yX11_from ∈ wsL_law := wb_t4 52 rfl rfl
set_option maxRecDepth 4000 in
theorem q_952 : Cond.code yX11_from cX11_from 2 (some .int) ∈ wsL_law := wb_t4 53 rfl rfl
set_option maxRecDepth 4000 in
theorem q_953 : Cond.methodLink RL 117 yX12_from ∈ wsL_law := wb_t5 198 rfl rfl
set_option maxRecDepth 4000 in
theorem q_954 : Cond.instanceMethod yX12_from ∈ wsL_law := wb_t5 199 rfl rfl
set_option maxRecDepth 4000 in
theorem q_955 : Cond.selects RX12 yX12_from yX12_from ∈ wsL_law := wb_t5 200 rfl rfl
set_option maxRecDepth 4000 in
theorem q_956 : Cond.code yX12_from cX12_from 3 (some .int) ∈ wsL_law := wb_t5 201 rfl rfl
set_option maxRecDepth 4000 in
theorem q_957 : Cond.methodLink RL 118 yX11_status ∈ wsL_law := wb_t4 54 rfl rfl
set_option maxRecDepth 4000 in
theorem q_958 : Cond.instanceMethod yX11_status ∈ wsL_law := wb_t4 55 rfl rfl
set_option maxRecDepth 4000 in
theorem q_959 : Cond.selects RX11 yX11_status yX11_status ∈ wsL_law := wb_t4 56 rfl rfl
set_option maxRecDepth 4000 in
theorem q_960 : Cond.code yX11_status cX11_status 2 (some .int) ∈ wsL_law := wb_t4 57 rfl rfl
set_option maxRecDepth 4000 in
theorem q_961 : Cond.methodLink RL 121 yX12_status ∈ wsL_law := wb_t5 202 rfl rfl
set_option maxRecDepth 4000 in
theorem q_962 : Cond.instanceMethod yX12_status ∈ wsL_law := wb_t5 203 rfl rfl
set_option maxRecDepth 4000 in
theorem q_963 : Cond.selects RX12 yX12_status yX12_status ∈ wsL_law := wb_t5 204 rfl rfl
set_option maxRecDepth 4000 in
theorem q_964 : Cond.code yX12_status cX12_status 2 (some .int) ∈ wsL_law := wb_t5 205 rfl rfl
set_option maxRecDepth 4000 in
theorem q_965 : Cond.methodLink RL 122 yX11_count ∈ wsL_law := wb_t4 58 rfl rfl
set_option maxRecDepth 4000 in
theorem q_966 : Cond.instanceMethod yX11_count ∈ wsL_law := wb_t4 59 rfl rfl
set_option maxRecDepth 4000 in
theorem q_967 : Cond.selects RX11 yX11_count yX11_count ∈ wsL_law := wb_t4 60 rfl rfl
set_option maxRecDepth 4000 in
theorem q_968 : Cond.code yX11_count cX11_count 2 (some .int) ∈ wsL_law := wb_t4 61 rfl rfl
set_option maxRecDepth 4000 in
theorem q_969 : Cond.methodLink RX11 241 yX11_counted ∈ wsL_law := wb_t4 62 rfl rfl
set_option maxRecDepth 4000 in
theorem q_970 : Cond.instanceMethod yX11_counted ∈ wsL_law := wb_t4 64 rfl rfl
theorem q_971 : Cond.selects RX11 yX11_counted yX11_counted ∈ wsL_law := wb_p2 (q := (⟨"RingShepherds", "counted", "(I)I"⟩, 9)) 5 rfl rfl rfl
set_option maxRecDepth 4000 in
theorem q_972 : Cond.code yX11_counted cX11_counted 2 (some .int) ∈ wsL_law := wb_t4 65 rfl rfl
set_option maxRecDepth 4000 in
theorem q_973 : Cond.fieldLink RX11 254 "RingShepherds$Ring" "rounds" "I" ∈ wsL_law := wb_t1 109 rfl rfl
set_option maxRecDepth 4000 in
theorem q_974 : Cond.fieldLink RX11 257 "RingShepherds$Ring" "strays" "I" ∈ wsL_law := wb_t1 111 rfl rfl
set_option maxRecDepth 4000 in
theorem q_975 : Cond.methodLink RX11 251 yX5_lumpsInAll ∈ wsL_law := wb_t4 66 rfl rfl
set_option maxRecDepth 4000 in
theorem q_976 : Cond.instanceMethod yX5_lumpsInAll ∈ wsL_law := wb_t4 67 rfl rfl
set_option maxRecDepth 4000 in
theorem q_977 : Cond.selects RX5 yX5_lumpsInAll yX5_lumpsInAll ∈ wsL_law := wb_t4 68 rfl rfl
set_option maxRecDepth 4000 in
theorem q_978 : Cond.code yX5_lumpsInAll cX5_lumpsInAll 3 (some .int) ∈ wsL_law := wb_t4 69 rfl rfl
set_option maxRecDepth 4000 in
theorem q_979 : Cond.methodLink RX5 77 yX5_lumpsIn ∈ wsL_law := wb_t4 70 rfl rfl
set_option maxRecDepth 4000 in
theorem q_980 : Cond.methodLink RL 125 yX12_count ∈ wsL_law := wb_t5 206 rfl rfl
set_option maxRecDepth 4000 in
theorem q_981 : Cond.instanceMethod yX12_count ∈ wsL_law := wb_t5 207 rfl rfl
set_option maxRecDepth 4000 in
theorem q_982 : Cond.selects RX12 yX12_count yX12_count ∈ wsL_law := wb_t5 208 rfl rfl
set_option maxRecDepth 4000 in
theorem q_983 : Cond.code yX12_count cX12_count 2 (some .int) ∈ wsL_law := wb_t5 209 rfl rfl
set_option maxRecDepth 4000 in
theorem q_984 : Cond.methodLink RX12 269 yX12_counted ∈ wsL_law := wb_t5 210 rfl rfl
set_option maxRecDepth 4000 in
theorem q_985 : Cond.instanceMethod yX12_counted ∈ wsL_law := wb_t5 212 rfl rfl
theorem q_986 : Cond.selects RX12 yX12_counted yX12_counted ∈ wsL_law := wb_p4 (q := (⟨"RingShepherdsModel", "counted", "(I)I"⟩, 25)) 6 rfl rfl rfl
set_option maxRecDepth 4000 in
theorem q_987 : Cond.code yX12_counted cX12_counted 2 (some .int) ∈ wsL_law := wb_t5 213 rfl rfl
set_option maxRecDepth 4000 in
theorem q_988 : Cond.methodLink RL 126 yX11_digest ∈ wsL_law := wb_t4 71 rfl rfl
set_option maxRecDepth 4000 in
theorem q_989 : Cond.instanceMethod yX11_digest ∈ wsL_law := wb_t4 72 rfl rfl
set_option maxRecDepth 4000 in
theorem q_990 : Cond.selects RX11 yX11_digest yX11_digest ∈ wsL_law := wb_t4 73 rfl rfl
set_option maxRecDepth 4000 in
theorem q_991 : Cond.code yX11_digest cX11_digest 4 (some .long) ∈ wsL_law := wb_t4 74 rfl rfl
set_option maxRecDepth 4000 in
theorem q_992 : Cond.constantLong RX11 244 (821) ∈ wsL_law := wb_t4 75 rfl rfl
set_option maxRecDepth 4000 in
theorem q_993 : Cond.constantLong RX11 246 (31) ∈ wsL_law := wb_t4 76 rfl rfl
set_option maxRecDepth 4000 in
theorem q_994 : Cond.methodLink RX11 248 yX5_addTo ∈ wsL_law := wb_t4 77 rfl rfl
set_option maxRecDepth 4000 in
theorem q_995 : Cond.instanceMethod yX5_addTo ∈ wsL_law := wb_t4 78 rfl rfl
set_option maxRecDepth 4000 in
theorem q_996 : Cond.selects RX5 yX5_addTo yX5_addTo ∈ wsL_law := wb_t4 79 rfl rfl
set_option maxRecDepth 4000 in
theorem q_997 : Cond.code yX5_addTo cX5_addTo 7 (some .long) ∈ wsL_law := wb_t4 80 rfl rfl
set_option maxRecDepth 4000 in
theorem q_998 : Cond.constantLong RX5 132 (31) ∈ wsL_law := wb_t4 81 rfl rfl
set_option maxRecDepth 4000 in
theorem q_999 : Cond.methodLink RX5 134 yX5_aboutMoon ∈ wsL_law := wb_t4 82 rfl rfl
set_option maxRecDepth 4000 in
theorem q_1000 : Cond.methodLink RL 130 yX12_digest ∈ wsL_law := wb_t5 214 rfl rfl
set_option maxRecDepth 4000 in
theorem q_1001 : Cond.instanceMethod yX12_digest ∈ wsL_law := wb_t5 215 rfl rfl
set_option maxRecDepth 4000 in
theorem q_1002 : Cond.selects RX12 yX12_digest yX12_digest ∈ wsL_law := wb_t5 216 rfl rfl
set_option maxRecDepth 4000 in
theorem q_1003 : Cond.code yX12_digest cX12_digest 4 (some .long) ∈ wsL_law := wb_t5 217 rfl rfl
set_option maxRecDepth 4000 in
theorem q_1004 : Cond.constantLong RX12 274 (821) ∈ wsL_law := wb_t5 218 rfl rfl
set_option maxRecDepth 4000 in
theorem q_1005 : Cond.constantLong RX12 272 (31) ∈ wsL_law := wb_t5 219 rfl rfl
set_option maxRecDepth 4000 in
theorem q_1006 : Cond.methodLink RX12 276 yX12_sums ∈ wsL_law := wb_t5 220 rfl rfl
set_option maxRecDepth 4000 in
theorem q_1007 : Cond.instanceMethod yX12_sums ∈ wsL_law := wb_t5 222 rfl rfl
theorem q_1008 : Cond.selects RX12 yX12_sums yX12_sums ∈ wsL_law := wb_p4 (q := (⟨"RingShepherdsModel", "sums", "(JII)J"⟩, 25)) 7 rfl rfl rfl
set_option maxRecDepth 4000 in
theorem q_1009 : Cond.code yX12_sums cX12_sums 8 (some .long) ∈ wsL_law := wb_t5 223 rfl rfl
theorem inX0 : ∀ w ∈ wsX00, w ∈ wsL_law := fun w h => List.mem_filter.mpr ⟨(by decide +kernel : ∀ w ∈ wsX00, w ∈ lw_tbl) w h, (by decide +kernel : ∀ w ∈ wsX00, goodWord w = true) w h⟩
theorem inX1 : ∀ w ∈ wsX10, w ∈ wsL_law := fun w h => List.mem_filter.mpr ⟨(by decide +kernel : ∀ w ∈ wsX10, w ∈ lw_tbl) w h, (by decide +kernel : ∀ w ∈ wsX10, goodWord w = true) w h⟩
theorem inX2 : ∀ w ∈ wsX20, w ∈ wsL_law := fun w h => List.mem_filter.mpr ⟨(by decide +kernel : ∀ w ∈ wsX20, w ∈ lw_tbl) w h, (by decide +kernel : ∀ w ∈ wsX20, goodWord w = true) w h⟩
theorem inX3 : ∀ w ∈ wsX30, w ∈ wsL_law := fun w h => List.mem_filter.mpr ⟨(by decide +kernel : ∀ w ∈ wsX30, w ∈ lw_tbl) w h, (by decide +kernel : ∀ w ∈ wsX30, goodWord w = true) w h⟩
theorem inX4 : ∀ w ∈ wsX40, w ∈ wsL_law := fun w h => List.mem_filter.mpr ⟨(by decide +kernel : ∀ w ∈ wsX40, w ∈ lw_tbl) w h, (by decide +kernel : ∀ w ∈ wsX40, goodWord w = true) w h⟩
theorem inX5 : ∀ w ∈ wsX50, w ∈ wsL_law := fun w h => List.mem_filter.mpr ⟨(by decide +kernel : ∀ w ∈ wsX50, w ∈ lw_tbl) w h, (by decide +kernel : ∀ w ∈ wsX50, goodWord w = true) w h⟩
theorem inX6 : ∀ w ∈ wsX60, w ∈ wsL_law := fun w h => List.mem_filter.mpr ⟨(by decide +kernel : ∀ w ∈ wsX60, w ∈ lw_tbl) w h, (by decide +kernel : ∀ w ∈ wsX60, goodWord w = true) w h⟩
theorem inX7 : ∀ w ∈ wsX70, w ∈ wsL_law := fun w h => List.mem_filter.mpr ⟨(by decide +kernel : ∀ w ∈ wsX70, w ∈ lw_tbl) w h, (by decide +kernel : ∀ w ∈ wsX70, goodWord w = true) w h⟩
theorem inX8 : ∀ w ∈ wsX80, w ∈ wsL_law := fun w h => List.mem_filter.mpr ⟨(by decide +kernel : ∀ w ∈ wsX80, w ∈ lw_tbl) w h, (by decide +kernel : ∀ w ∈ wsX80, goodWord w = true) w h⟩
theorem inX9 : ∀ w ∈ wsX90, w ∈ wsL_law := fun w h => List.mem_filter.mpr ⟨(by decide +kernel : ∀ w ∈ wsX90, w ∈ lw_tbl) w h, (by decide +kernel : ∀ w ∈ wsX90, goodWord w = true) w h⟩
theorem inX10 : ∀ w ∈ wsX100, w ∈ wsL_law := fun w h => List.mem_filter.mpr ⟨(by decide +kernel : ∀ w ∈ wsX100, w ∈ lw_tbl) w h, (by decide +kernel : ∀ w ∈ wsX100, goodWord w = true) w h⟩
theorem inX11 : ∀ w ∈ wsX110, w ∈ wsL_law := fun w h => List.mem_filter.mpr ⟨(by decide +kernel : ∀ w ∈ wsX110, w ∈ lw_tbl) w h, (by decide +kernel : ∀ w ∈ wsX110, goodWord w = true) w h⟩
theorem inX12 : ∀ w ∈ wsX120, w ∈ wsL_law := fun w h => List.mem_filter.mpr ⟨(by decide +kernel : ∀ w ∈ wsX120, w ∈ lw_tbl) w h, (by decide +kernel : ∀ w ∈ wsX120, goodWord w = true) w h⟩
end
section
/-! my own words: a flat memory. M a k: the int at place k of the cell a (a field's slot, or an array's place); N a k: the long. A shape says which cells there are; it never changes once made. -/
abbrev Mm : Type := Nat → Nat → Int32
abbrev Ml : Type := Nat → Nat → Int64
/-- a shape: an array (its class, its length, its references if it holds such), or an object (its class's number, its slots: .inl 0 an int, .inl 1 a long, .inr a reference that stays) -/
abbrev Shp : Type := Nat → (ClassId × Nat × Option (Nat → Option Nat)) ⊕ (Nat × List (Nat ⊕ Option Nat))
def cF (M : Mm) (N : Ml) (a k : Nat) (q : Nat ⊕ Option Nat) : Value := match q with
  | .inl 0 => .int (M a k)
  | .inl (_ + 1) => .long (N a k)
  | .inr r => va_rf r
def cE (σ : Shp) (M : Mm) (N : Ml) : Nat → va_E := fun a => match σ a with
  | .inl (cA, n, none) => .inl (cA, n, .inl (M a))
  | .inl (cA, n, some f) => .inl (cA, n, .inr (.inr (.inr (.inr f))))
  | .inr (ci, sl) => .inr (ci, sl.mapIdx (cF M N a))
def up2 (M : Mm) (a k : Nat) (v : Int32) : Mm := va_up M a (upd (M a) k v)
def up2L (N : Ml) (a k : Nat) (v : Int64) : Ml := va_up N a (vp_updL (N a) k v)
theorem cE_arr {σ : Shp} {M : Mm} {N : Ml} {a : Nat} {cA : ClassId} {n : Nat} (h : σ a = .inl (cA, n, none)) : cE σ M N a = .inl (cA, n, .inl (M a)) := by simp [cE, h]
theorem cE_ref {σ : Shp} {M : Mm} {N : Ml} {a : Nat} {cA : ClassId} {n : Nat} {f : Nat → Option Nat} (h : σ a = .inl (cA, n, some f)) : cE σ M N a = .inl (cA, n, .inr (.inr (.inr (.inr f)))) := by simp [cE, h]
theorem cE_obj {σ : Shp} {M : Mm} {N : Ml} {a : Nat} {ci : Nat} {sl : List (Nat ⊕ Option Nat)} (h : σ a = .inr (ci, sl)) : cE σ M N a = .inr (ci, sl.mapIdx (cF M N a)) := by simp [cE, h]
theorem cF_cong {M M' : Mm} {N N' : Ml} {a k : Nat} {q : Nat ⊕ Option Nat} (h1 : M' a k = M a k) (h2 : N' a k = N a k) : cF M' N' a k q = cF M N a k q := by
  match q with
  | .inl 0 => simp [cF, h1]
  | .inl (_ + 1) => simp [cF, h2]
  | .inr r => simp [cF]
theorem cE_cong {σ : Shp} {M M' : Mm} {N N' : Ml} {a : Nat} (h1 : M' a = M a) (h2 : N' a = N a) : cE σ M' N' a = cE σ M N a := by
  have hc : cF M' N' a = cF M N a := by funext k q; exact cF_cong (by rw [h1]) (by rw [h2])
  simp only [cE, h1, hc]
theorem cE_upA {σ : Shp} {M : Mm} {N : Ml} {a : Nat} {cA : ClassId} {n : Nat} (h : σ a = .inl (cA, n, none)) (f : Nat → Int32) (b : Nat) : va_up (cE σ M N) a (.inl (cA, n, .inl f)) b = cE σ (va_up M a f) N b := by
  by_cases hb : b = a
  · subst hb
    rw [va_up_self, cE_arr h, va_up_self]
  · rw [va_up_ne _ _ hb]
    exact (cE_cong (va_up_ne _ _ hb) rfl).symm
theorem mapIdx_set {sl : List (Nat ⊕ Option Nat)} {F G : Nat → (Nat ⊕ Option Nat) → Value} {k : Nat} {v : Value} {q0 : Nat ⊕ Option Nat} (hq : sl[k]? = some q0) (h1 : G k q0 = v) (h2 : ∀ j q, j ≠ k → sl[j]? = some q → G j q = F j q) : (sl.mapIdx F).set k v = sl.mapIdx G := by
  apply List.ext_getElem?
  intro j
  by_cases hj : j = k
  · subst hj
    have hl : j < (sl.mapIdx F).length := by rw [List.length_mapIdx]; exact (List.getElem?_eq_some_iff.mp hq).1
    rw [List.getElem?_set_self hl, List.getElem?_mapIdx, hq]
    simp [h1]
  · rw [List.getElem?_set_ne (fun e => hj e.symm), List.getElem?_mapIdx, List.getElem?_mapIdx]
    cases hs : sl[j]? with
    | none => rfl
    | some q => simp [h2 j q hj hs]
theorem cE_upI {σ : Shp} {M : Mm} {N : Ml} {a : Nat} {ci : Nat} {sl : List (Nat ⊕ Option Nat)} (h : σ a = .inr (ci, sl)) {k : Nat} (hk : sl[k]? = some (.inl 0)) (v : Int32) (b : Nat) : va_up (cE σ M N) a (.inr (ci, (sl.mapIdx (cF M N a)).set k (.int v))) b = cE σ (up2 M a k v) N b := by
  by_cases hb : b = a
  · subst hb
    rw [va_up_self, cE_obj h, mapIdx_set (G := cF (up2 M b k v) N b) hk (by simp [cF, up2, va_up, upd])]
    intro j q hj _
    exact cF_cong (by simp [up2, va_up, upd, hj]) rfl
  · rw [va_up_ne _ _ hb]
    exact (cE_cong (va_up_ne _ _ hb) rfl).symm
theorem cE_upL {σ : Shp} {M : Mm} {N : Ml} {a : Nat} {ci : Nat} {sl : List (Nat ⊕ Option Nat)} (h : σ a = .inr (ci, sl)) {k : Nat} (hk : sl[k]? = some (.inl 1)) (v : Int64) (b : Nat) : va_up (cE σ M N) a (.inr (ci, (sl.mapIdx (cF M N a)).set k (.long v))) b = cE σ M (up2L N a k v) b := by
  by_cases hb : b = a
  · subst hb
    rw [va_up_self, cE_obj h, mapIdx_set (G := cF M (up2L N b k v) b) hk (by simp [cF, up2L, va_up, vp_updL])]
    intro j q hj _
    exact cF_cong rfl (by simp [up2L, va_up, vp_updL, hj])
  · rw [va_up_ne _ _ hb]
    exact (cE_cong rfl (va_up_ne _ _ hb)).symm
/-- what stays for a whole run: the tables' numbers, the cells' addresses, their shapes, the array classes (int, boolean, Plain, Ring, Story), the factorials' array, the Strings and their bytes -/
abbrev Ev : Type := va_G × List Nat × Shp × (ClassId × ClassId × ClassId × ClassId × ClassId) × Nat × (Nat → Nat) × (Nat → Nat)
abbrev eI (g : Ev) : ClassId := g.2.2.2.1.1
abbrev eZ (g : Ev) : ClassId := g.2.2.2.1.2.1
abbrev eP (g : Ev) : ClassId := g.2.2.2.1.2.2.1
abbrev eR (g : Ev) : ClassId := g.2.2.2.1.2.2.2.1
abbrev eS (g : Ev) : ClassId := g.2.2.2.1.2.2.2.2
abbrev eF (g : Ev) : Nat := g.2.2.2.2.1
abbrev eK (g : Ev) : Nat → Nat := g.2.2.2.2.2.1
abbrev eV (g : Ev) : Nat → Nat := g.2.2.2.2.2.2
abbrev tys (g : Ev) : List (ClassId × FieldType) := [(eI g, .int), (eZ g, .boolean), (eP g, .object RX3), (eR g, .object RX5), (eS g, .object RX7)]
def wA (g : Ev) : Nat → Prop := fun q => q ∈ g.2.1
abbrev wP (g : Ev) (M : Mm) (N : Ml) (H : Heap) : Prop := va_P g.1 vwCl (va_pl g.2.1 (cE g.2.2.1 M N)) H
def facts : List Int32 := [1, 1, 2, 6, 24]
def txLen : List Nat := [4, 4, 5, 4]
def txByt : List (List Int32) := [[114, 105, 110, 103], [115, 116, 101, 112], [108, 117, 109, 112, 115], [109, 111, 111, 110]]
def nsW : List Cond := [.methodLinkNest RX0 104 yX11_isLane RX11, .methodLinkNest RX2 19 yX11_isLane RX11, .methodLinkNest RX4 100 yX11_isWithin RX11, .methodLinkNest RX5 121 yX11_isLane RX11]
def Sx (g : Ev) (U : State) : Prop := (va_Z RX11 "FACTORIALS" "[I" (.ref (eF g)) (wA g) U U.heap ∧ va_T .int (eF g) 5 (fun j => .int (facts.getD j 0)) (wA g) U U.heap) ∧
  va_Z "java/lang/String" "COMPACT_STRINGS" "Z" (.int 1) (wA g) U U.heap ∧ va_Zq "jdk/internal/util/Preconditions" "SIOOBE_FORMATTER" "Ljava/util/function/BiFunction;" (wA g) U U.heap ∧
  vk_S 4 txLen txByt (eK g) (eV g) (wA g) U U.heap ∧ vk_R RX4 45 "ring" (eK g 0) U ∧ vk_R RX4 64 "step" (eK g 1) U ∧ vk_R RX4 69 "lumps" (eK g 2) U ∧ vk_R RX4 74 "moon" (eK g 3) U
def Fx (g : Ev) (U : State) : Prop := va_K g.1 vwCl (tys g) U ∧ (va_Nw (.methodLinkNest RX0 104 yX11_isLane RX11) U ∧ va_Nw (.methodLinkNest RX2 19 yX11_isLane RX11) U ∧ va_Nw (.methodLinkNest RX4 100 yX11_isWithin RX11) U ∧ va_Nw (.methodLinkNest RX5 121 yX11_isLane RX11) U ∧ va_Nw (.fieldLinkNest RX0 153 RX11 "FACTORIALS" "[I" RX11) U) ∧ Sx g U
theorem Sx.go {g : Ev} {s U : State} {H : Heap} {locs : List Loc} (h : Sx g s) (hS : va_S (wA g) s.heap H locs) (hU : U.heap = H) (hW : s.WarmedH U.vm) : Sx g U := by
  obtain ⟨⟨h1, h2⟩, h3, h4, h5, h6, h7, h8, h9⟩ := h
  have hq : ∀ a : Nat, a < s.heap.size → ¬ wA g a → U.heap[a]? = s.heap[a]? := fun a h1 h2 => by rw [hU]; exact hS.2.1 a h1 h2
  exact ⟨⟨(h1.kept hq).moved hW.alike, (h2.kept hq).moved hW.alike⟩, (h3.kept hq).moved hW.alike, (h4.kept hq).moved hW.alike, (h5.kept hq).moved hW.alike, h6.warm hW, h7.warm hW, h8.warm hW, h9.warm hW⟩
theorem Fx.go {g : Ev} {s U : State} {H : Heap} {locs : List Loc} (h : Fx g s) (hS : va_S (wA g) s.heap H locs) (hU : U.heap = H) (hW : s.WarmedH U.vm) : Fx g U :=
  ⟨va_K.moved hW.alike h.1, ⟨h.2.1.1.warmM hW, h.2.1.2.1.warmM hW, h.2.1.2.2.1.warmM hW, h.2.1.2.2.2.1.warmM hW, h.2.1.2.2.2.2.warmF hW⟩, h.2.2.go hS hU hW⟩
theorem Sx.same {g : Ev} {s U : State} (h : Sx g s) (hv : U.vm = s.vm) (hh : U.heap = s.heap) : Sx g U := by
  obtain ⟨⟨h1, h2⟩, h3, h4, h5, h6, h7, h8, h9⟩ := h
  have ha : s.vm.Alike U.vm := by rw [hv]; exact Vm.Alike.refl s.vm
  have hq : ∀ a : Nat, a < s.heap.size → ¬ wA g a → U.heap[a]? = s.heap[a]? := fun a _ _ => by rw [hh]
  exact ⟨⟨(h1.kept hq).moved ha, (h2.kept hq).moved ha⟩, (h3.kept hq).moved ha, (h4.kept hq).moved ha, (h5.kept hq).moved ha, h6.same hv, h7.same hv, h8.same hv, h9.same hv⟩
theorem Fx.same {g : Ev} {s U : State} (h : Fx g s) (hv : U.vm = s.vm) (hh : U.heap = s.heap) : Fx g U :=
  ⟨va_K.moved (by rw [hv]; exact Vm.Alike.refl s.vm) h.1, ⟨h.2.1.1.same rfl hv.symm, h.2.1.2.1.same rfl hv.symm, h.2.1.2.2.1.same rfl hv.symm, h.2.1.2.2.2.1.same rfl hv.symm, h.2.1.2.2.2.2.same rfl hv.symm⟩, h.2.2.same hv hh⟩
abbrev rmD (d : Nat) : Room := { frames := d, cells := 0, slots := 0, locals := 64 * d }
abbrev Wd (g : Ev) (M : Mm) (N : Ml) (U : State) : Prop := wP g M N U.heap ∧ Fx g U
abbrev wy (y : MethodName) (b : ByteArray) (n : Nat) (r : Option FieldType) : List Cond := Cond.code y b n r :: wsL_law
abbrev QI (g : Ev) (v : Int32) (M : Mm) (N : Ml) : Array Value → State → Outcome → State → Prop := va_Qi (fun v' (u : Mm × Ml) => v' = v ∧ u = (M, N)) (fun u t => wP g u.1 u.2 t.heap) (wA g)
abbrev QL (g : Ev) (v : Int64) (M : Mm) (N : Ml) : Array Value → State → Outcome → State → Prop := va_Ql (fun v' (u : Mm × Ml) => v' = v ∧ u = (M, N)) (fun u t => wP g u.1 u.2 t.heap) (wA g)
abbrev QV (g : Ev) (M : Mm) (N : Ml) : Array Value → State → Outcome → State → Prop := va_Qv (fun (u : Mm × Ml) => u = (M, N)) (fun u t => wP g u.1 u.2 t.heap) (wA g)
abbrev QR (g : Ev) (v : Nat) (M : Mm) (N : Ml) : Array Value → State → Outcome → State → Prop := va_Qr (fun (u : Mm × Ml) => u = (M, N)) (fun u a t => a = v ∧ wP g u.1 u.2 t.heap) (wA g)
abbrev KM (g : Ev) (l : Launch) (y : MethodName) (b : ByteArray) (n : Nat) (r : Option FieldType) (d : Nat) (av : List Value) (M : Mm) (N : Ml) (Qc : Array Value → State → Outcome → State → Prop) : Prop := Met l y (wy y b n r) (rmD d) (va_Pc av (Wd g M N)) Qc 0 0 (wA g)
/-- what a method's walk has from its entry on -/
def Cx (g : Ev) (p : Program) (s : State) (m : MethodId) (args : Array Value) (c : Code) (cc : ByteArray) (nL : Nat) (own : String) : Prop :=
  p.tables.exec = Jvm.exec ∧ c.code = cc ∧ c.maxLocals = nL ∧ s.vm.findClass own = some m.cls ∧ (∀ w ∈ wsL_law, w.before args s = true) ∧ Fx g s ∧ g.2.1.Nodup
theorem wD {L : List Nat} (h : L.Nodup) (f : Nat → va_E) {A : Nat → Prop} (hA : ∀ a ∈ L, A a) : va_D A (va_pl L f) := by
  refine ⟨fun i j p q hi hj e => ?_, fun k q hk => ?_⟩
  · rw [va_pl, List.getElem?_map] at hi hj
    cases h1 : L[i]? with
    | none => simp [h1] at hi
    | some x =>
      cases h2 : L[j]? with
      | none => simp [h2] at hj
      | some z =>
        simp [h1] at hi
        simp [h2] at hj
        subst hi
        subst hj
        have hxz : x = z := e
        subst hxz
        have hi' := (List.getElem?_eq_some_iff.mp h1).1
        exact (List.getElem?_inj hi' h).mp (h1.trans h2.symm)
  · rw [va_pl, List.getElem?_map] at hk
    cases h1 : L[k]? with
    | none => simp [h1] at hk
    | some x =>
      simp [h1] at hk
      subst hk
      exact hA x (List.mem_of_getElem? h1)
theorem KM.mk {g : Ev} {l : Launch} {y : MethodName} {b : ByteArray} {n : Nat} {r : Option FieldType} {d : Nat} {av : List Value} {M : Mm} {N : Ml} {Qc : Array Value → State → Outcome → State → Prop} (hg : g.2.1.Nodup) (hy : plainName y.cls = true) (hn : (lg_sl av).length ≤ n)
    (body : ∀ (p : Program) (e : Env) (s : State) (m : MethodId) (below : List Frame) (meth : Method) (c : Code) (ls : Array Slot), Cx g p s m av.toArray c b n y.cls → meth.sig.returnType = r → meth.locks = false → lv_has ls n (lv_args 0 av) → wP g M N s.heap → va_S (wA g) s.heap s.heap [] →
      W p l e (rmD d) s m av.toArray below meth c s.heap [] 0 0 (MQ below Qc av.toArray s 0 0 (wA g)) (F0 m 0 ls [])) : KM g l y b n r d av M N Qc := by
  refine Met.ofW (cc := b) (maxL := n) (ret := r) hy rfl ?_
  intro p e s m args below meth c s₁ B hml hv
  obtain ⟨rfl, hP, hF⟩ := hv
  have hts := atoms_spec (ws := wy y b n r) B.pre
  have hown : s.vm.findClass y.cls = some m.cls := findClass_of_methodNamed B.named
  have hl := lv_entry av (n := n) hn
  rw [lg_entry_eq]
  exact body p e s m below meth c _ ⟨B.exec, B.bytes, hml, hown, fun w hw => hts w (List.mem_cons_of_mem _ hw), hF, hg⟩ B.returns B.notSynchronized hl hP va_S.rf
end
section
section RWS
variable {p : Program} {l : Launch} {e : Env} {R : Room} {s : State} {m : MethodId} {args : Array Value} {below : List Frame} {meth : Method} {c : Code} {H : Heap} {locs : List Loc} {cells slots : Nat} {Q : State → Prop}
variable {cc : ByteArray} {pc nL : Nat} {own : String} {ls : Array Slot} {rest st : List Value} {g : Ev} {M M' : Mm} {N N' : Ml}
/-- the cell of an object, the cell of an array of ints: where, and what shape -/
def oAt (g : Ev) (a ci : Nat) (sl : List (Nat ⊕ Option Nat)) : Prop := a ∈ g.2.1 ∧ g.2.2.1 a = .inr (ci, sl)
def iAt (g : Ev) (a n : Nat) : Prop := a ∈ g.2.1 ∧ g.2.2.1 a = .inl (eI g, n, none)
def zAt (g : Ev) (a n : Nat) : Prop := a ∈ g.2.1 ∧ g.2.2.1 a = .inl (eZ g, n, none)
def rAt (g : Ev) (a : Nat) (cA : ClassId) (n : Nat) (f : Nat → Option Nat) : Prop := a ∈ g.2.1 ∧ g.2.2.1 a = .inl (cA, n, some f)
/-- a field's words: who reads it, where it is linked -/
def FL (own : String) (ci index k : Nat) (C : String) (T : u_T) (Nn : Nat) : Prop := vwCl[ci]? = some (C, T, Nn) ∧ k < Nn ∧ (∀ w ∈ u_ws C T Nn, w ∈ wsL_law) ∧ (T k).1 = C ∧ Cond.fieldLink own index C (T k).2.1 (T k).2.2.1 ∈ wsL_law
theorem pl_at {D : va_G} {a : Nat} {e0 : va_E} (ha : a ∈ g.2.1) (he : cE g.2.2.1 M N a = e0) : ∃ k : Nat, (va_pl g.2.1 (cE g.2.2.1 M N))[k]? = some (a, e0) := by
  obtain ⟨k, hk⟩ := va_pl_get (X := []) (f := cE g.2.2.1 M N) ha
  exact ⟨k, by rw [← he]; exact hk⟩
theorem pl_put {a k : Nat} {e0 e1 : va_E} (hnd : g.2.1.Nodup) (ha : a ∈ g.2.1) (he : cE g.2.2.1 M N a = e0) (hk : (va_pl g.2.1 (cE g.2.2.1 M N))[k]? = some (a, e0)) (hu : ∀ b, va_up (cE g.2.2.1 M N) a e1 b = cE g.2.2.1 M' N' b) : (va_pl g.2.1 (cE g.2.2.1 M N)).set k (a, e1) = va_pl g.2.1 (cE g.2.2.1 M' N') := by
  have h := va_pl_set (X := []) (e := e1) (wD hnd (cE g.2.2.1 M N) (A := fun _ => True) (fun _ _ => trivial)) ha (by rw [he]; exact hk)
  have h2 := va_pl_congr (L := g.2.1) hu
  rw [← h2]
  exact h
theorem r_get (hC : Cx g p s m args c cc nL own) (hP : wP g M N H) {a ci index : Nat} {sl : List (Nat ⊕ Option Nat)} {C : String} {T : u_T} {Nn : Nat} (ho : oAt g a ci sl) {k : Nat} (hf : FL own ci index k C T Nn) {q0 : Nat ⊕ Option Nat} (hq : sl[k]? = some q0) (hdg : decode cc pc = .ok (.getfield index, 3))
    (kk : W p l e R s m args below meth c H locs cells slots Q (F0 m (pc + 3) ls (cF M N a k q0 :: rest))) : W p l e R s m args below meth c H locs cells slots Q (F0 m pc ls (.ref a :: rest)) := by
  obtain ⟨hx, hb, hml, hown, hts, hF, hnd⟩ := hC
  obtain ⟨hc, hk, hin, hcc, hlink⟩ := hf
  obtain ⟨k9, hk9⟩ := pl_at (D := g.1) ho.1 (cE_obj (M := M) (N := N) ho.2)
  refine va_get (D := g.1) (C := C) (T := T) (N := Nn) (ref := C) (index := index) hx hb hts hin hown hF.1 hP k9 hk9 hc k hk (hts _ hlink) (by rw [hcc]; exact fun _ h9 => h9) (v := cF M N a k q0) ?_ hdg kk
  rw [List.getElem?_mapIdx, hq]
  rfl
theorem r_putI (hC : Cx g p s m args c cc nL own) (hP : wP g M N H) (hS : va_S (wA g) s.heap H locs) {a ci index : Nat} {sl : List (Nat ⊕ Option Nat)} {C : String} {T : u_T} {Nn : Nat} (ho : oAt g a ci sl) {k : Nat} (hf : FL own ci index k C T Nn) (ty0 : Nat → FieldType) (hty : ∀ k, k < Nn → parseFieldDescriptor (T k).2.2.1 = some (ty0 k)) (hnm : ∀ a, a < Nn → ∀ b, b < Nn → a ≠ b → (T a).2.1 ≠ (T b).2.1) (hfin : (T k).2.2.2 = false) (hint : ty0 k = .int) (hq : sl[k]? = some (.inl 0)) {v : Int32} (hdg : decode cc pc = .ok (.putfield index, 3))
    (kk : ∀ (H : Heap) (locs : List Loc), wP g (up2 M a k v) N H → va_S (wA g) s.heap H locs → W p l e R s m args below meth c H locs cells slots Q (F0 m (pc + 3) ls rest)) : W p l e R s m args below meth c H locs cells slots Q (F0 m pc ls (.int v :: .ref a :: rest)) := by
  obtain ⟨hx, hb, hml, hown, hts, hF, hnd⟩ := hC
  obtain ⟨hc, hk, hin, hcc, hlink⟩ := hf
  obtain ⟨k9, hk9⟩ := pl_at (D := g.1) ho.1 (cE_obj (M := M) (N := N) ho.2)
  refine va_put (D := g.1) (C := C) (T := T) (N := Nn) (ref := C) (index := index) (ty := .int) (v := .int v) hx hb hts hin ty0 hty hnm hown hF.1 hP (wD hnd _ (fun _ h => h)) hS k9 hk9 hc k hk (hts _ hlink) (by rw [hcc]; exact fun _ h9 => h9) hfin (by rw [← hint]; exact hty k hk) rfl rfl ?_ hdg (fun H1 locs1 hP1 hD1 hS1 => ?_)
  · rw [List.length_mapIdx]
    exact (List.getElem?_eq_some_iff.mp hq).1
  · rw [pl_put (M' := up2 M a k v) (N' := N) hnd ho.1 (cE_obj ho.2) hk9 (cE_upI ho.2 hq v)] at hP1
    exact kk H1 locs1 hP1 hS1
theorem r_putL (hC : Cx g p s m args c cc nL own) (hP : wP g M N H) (hS : va_S (wA g) s.heap H locs) {a ci index : Nat} {sl : List (Nat ⊕ Option Nat)} {C : String} {T : u_T} {Nn : Nat} (ho : oAt g a ci sl) {k : Nat} (hf : FL own ci index k C T Nn) (ty0 : Nat → FieldType) (hty : ∀ k, k < Nn → parseFieldDescriptor (T k).2.2.1 = some (ty0 k)) (hnm : ∀ a, a < Nn → ∀ b, b < Nn → a ≠ b → (T a).2.1 ≠ (T b).2.1) (hfin : (T k).2.2.2 = false) (hint : ty0 k = .long) (hq : sl[k]? = some (.inl 1)) {v : Int64} (hdg : decode cc pc = .ok (.putfield index, 3))
    (kk : ∀ (H : Heap) (locs : List Loc), wP g M (up2L N a k v) H → va_S (wA g) s.heap H locs → W p l e R s m args below meth c H locs cells slots Q (F0 m (pc + 3) ls rest)) : W p l e R s m args below meth c H locs cells slots Q (F0 m pc ls (.long v :: .ref a :: rest)) := by
  obtain ⟨hx, hb, hml, hown, hts, hF, hnd⟩ := hC
  obtain ⟨hc, hk, hin, hcc, hlink⟩ := hf
  obtain ⟨k9, hk9⟩ := pl_at (D := g.1) ho.1 (cE_obj (M := M) (N := N) ho.2)
  refine va_put (D := g.1) (C := C) (T := T) (N := Nn) (ref := C) (index := index) (ty := .long) (v := .long v) hx hb hts hin ty0 hty hnm hown hF.1 hP (wD hnd _ (fun _ h => h)) hS k9 hk9 hc k hk (hts _ hlink) (by rw [hcc]; exact fun _ h9 => h9) hfin (by rw [← hint]; exact hty k hk) rfl rfl ?_ hdg (fun H1 locs1 hP1 hD1 hS1 => ?_)
  · rw [List.length_mapIdx]
    exact (List.getElem?_eq_some_iff.mp hq).1
  · rw [pl_put (M' := M) (N' := up2L N a k v) hnd ho.1 (cE_obj ho.2) hk9 (cE_upL ho.2 hq v)] at hP1
    exact kk H1 locs1 hP1 hS1
/-- an index that is in its row, as a number -/
def ckd (i : Int32) (n : Nat) : Bool := decide (0 ≤ i) && decide (i.toNatClampNeg < n)
theorem ckd_in {i : Int32} {n : Nat} (h : ckd i n = true) : vp_in i n := by
  simp only [ckd, Bool.and_eq_true, decide_eq_true_eq] at h
  intro q
  rcases q with q | q
  · exact absurd h.1 (Int32.not_le.mpr q)
  · omega
theorem r_iald (hC : Cx g p s m args c cc nL own) (hP : wP g M N H) {a n : Nat} (ha : iAt g a n) {i : Int32} (hin : vp_in i n) (hdg : decode cc pc = .ok (.iaload, 1))
    (kk : W p l e R s m args below meth c H locs cells slots Q (F0 m (pc + 1) ls (.int (M a i.toNatClampNeg) :: rest))) : W p l e R s m args below meth c H locs cells slots Q (F0 m pc ls (.int i :: .ref a :: rest)) := by
  obtain ⟨hx, hb, hml, hown, hts, hF, hnd⟩ := hC
  obtain ⟨k9, hk9⟩ := pl_at (D := g.1) ha.1 (cE_arr (M := M) (N := N) ha.2)
  exact va_iald (D := g.1) hx hb hF.1 hP k9 0 hk9 rfl hin hdg kk
theorem r_zald (hC : Cx g p s m args c cc nL own) (hP : wP g M N H) {a n : Nat} (ha : zAt g a n) {i : Int32} (hin : vp_in i n) (hdg : decode cc pc = .ok (.baload, 1))
    (kk : W p l e R s m args below meth c H locs cells slots Q (F0 m (pc + 1) ls (.int (M a i.toNatClampNeg) :: rest))) : W p l e R s m args below meth c H locs cells slots Q (F0 m pc ls (.int i :: .ref a :: rest)) := by
  obtain ⟨hx, hb, hml, hown, hts, hF, hnd⟩ := hC
  obtain ⟨k9, hk9⟩ := pl_at (D := g.1) ha.1 (cE_arr (M := M) (N := N) ha.2)
  exact va_zald (D := g.1) hx hb hF.1 hP k9 1 hk9 rfl hin hdg kk
theorem r_iast (hC : Cx g p s m args c cc nL own) (hP : wP g M N H) (hS : va_S (wA g) s.heap H locs) {a n : Nat} (ha : iAt g a n) {i v : Int32} (hin : vp_in i n) (hdg : decode cc pc = .ok (.iastore, 1))
    (kk : ∀ (H : Heap) (locs : List Loc), wP g (up2 M a i.toNatClampNeg v) N H → va_S (wA g) s.heap H locs → W p l e R s m args below meth c H locs cells slots Q (F0 m (pc + 1) ls rest)) : W p l e R s m args below meth c H locs cells slots Q (F0 m pc ls (.int v :: .int i :: .ref a :: rest)) := by
  obtain ⟨hx, hb, hml, hown, hts, hF, hnd⟩ := hC
  obtain ⟨k9, hk9⟩ := pl_at (D := g.1) ha.1 (cE_arr (M := M) (N := N) ha.2)
  refine va_iast (D := g.1) hx hb hF.1 hP (wD hnd _ (fun _ h => h)) hS k9 0 hk9 rfl hin hdg (fun H1 locs1 hP1 hD1 hS1 => ?_)
  rw [pl_put (M' := up2 M a i.toNatClampNeg v) (N' := N) hnd ha.1 (cE_arr ha.2) hk9 (cE_upA ha.2 _)] at hP1
  exact kk H1 locs1 hP1 hS1
theorem r_aald (hC : Cx g p s m args c cc nL own) (hP : wP g M N H) {a n t0 : Nat} {cA : ClassId} {f : Nat → Option Nat} {C : String} (ha : rAt g a cA n f) (ht : (tys g)[t0]? = some (cA, .object C)) {i : Int32} (hin : vp_in i n) (hdg : decode cc pc = .ok (.aaload, 1))
    (kk : W p l e R s m args below meth c H locs cells slots Q (F0 m (pc + 1) ls (va_rf (f i.toNatClampNeg) :: rest))) : W p l e R s m args below meth c H locs cells slots Q (F0 m pc ls (.int i :: .ref a :: rest)) := by
  obtain ⟨hx, hb, hml, hown, hts, hF, hnd⟩ := hC
  obtain ⟨k9, hk9⟩ := pl_at (D := g.1) ha.1 (cE_ref (M := M) (N := N) ha.2)
  exact va_aldq (D := g.1) hx hb hF.1 hP k9 t0 hk9 ht hin hdg kk
/-- the words of a call, by a link of own's pool -/
def CWd (own : String) (index : Nat) (y : MethodName) (b : ByteArray) (n : Nat) (r : Option FieldType) (na : Nat) : Prop := Cond.code y b n r ∈ wsL_law ∧ Cond.initialized y.cls ∈ wsL_law ∧ (y.cls ≠ "java/lang/invoke/MethodHandle" ∧ y.cls ≠ "java/lang/invoke/VarHandle") ∧ (∀ sig, parseMethodDescriptor y.desc = some sig → na = sig.parameters.length) ∧ n ≤ 40
def Rm (R : Room) (d cells slots : Nat) : Prop := d + 1 ≤ R.frames ∧ 64 * d + 64 ≤ R.locals ∧ cells ≤ R.cells ∧ slots ≤ R.slots
theorem Rm.D (d d' : Nat) (h : Nat.ble (d + 1) d' = true) : Rm (rmD d') d 0 0 := by
  have h1 := Nat.le_of_ble_eq_true h
  refine ⟨h1, ?_, Nat.le_refl 0, Nat.le_refl 0⟩
  show 64 * d + 64 ≤ 64 * d'
  omega
theorem wy_pay (hC : Cx g p s m args c cc nL own) {y : MethodName} {b : ByteArray} {n : Nat} {r : Option FieldType} (hy : Cond.code y b n r ∈ wsL_law) : ∀ w ∈ wy y b n r, ∀ (a' : Array Value) (U : State), s.WarmedH U.vm → w.before a' U = true := by
  have hG : GoodIn wsL_law (wy y b n r) := fun w hw => by
    rcases List.mem_cons.mp hw with e | e
    · subst e
      exact ⟨hy, (wb_good _ hy).2⟩
    · exact ⟨e, (wb_good _ e).2⟩
  exact pay_in hC.2.2.2.2.1 hG
theorem Wd.blind {av : List Value} : FrameBlind (va_Pc av (Wd g M N)) := fun a U f mk q => by
  obtain ⟨q0, qP, qF⟩ := q
  exact ⟨q0, qP, qF.same rfl rfl⟩
theorem Wd.pre (hC : Cx g p s m args c cc nL own) (hP : wP g M N H) (hS : va_S (wA g) s.heap H locs) (av : List Value) (U : State) (hU : U.heap = H) (hW : s.WarmedH U.vm) : va_Pc av (Wd g M N) av.toArray U := ⟨rfl, by rw [hU]; exact hP, hC.2.2.2.2.2.1.go hS hU hW⟩
theorem r_runV (hC : Cx g p s m args c cc nL own) (hP : wP g M N H) (hS : va_S (wA g) s.heap H locs) {y : MethodName} {b : ByteArray} {n na d index a ci : Nat} {r : Option FieldType} {As : List Value} {Qc : Array Value → State → Outcome → State → Prop} {sl : List (Nat ⊕ Option Nat)} {C : String} {T : u_T} {Nn : Nat} (hM : KM g l y b n r d (.ref a :: As) M N Qc) (hw : CWd own index y b n r na) (hlk : Cond.methodLink own index y ∈ wsL_law) (him : Cond.instanceMethod y ∈ wsL_law) (hsel : Cond.selects C y y ∈ wsL_law) (hR : Rm R d cells slots) (ho : oAt g a ci sl) (hc : vwCl[ci]? = some (C, T, Nn)) (hn : As.length = na) (hls : ls.size = nL) (hst : st = As.reverse ++ .ref a :: rest) (hcat : (rest.map fun v => v.category).sum ≤ 8) (hdg : decode cc pc = .ok (.invokevirtual index, 3)) :
    va_Run p l e R s m args below meth c H locs cells slots 0 0 (F0 m pc ls st) rest (Qc (Value.ref a :: As).toArray) (wA g) := by
  have hC' := hC
  obtain ⟨hx, hb, hml, hown, hts, hF, hnd⟩ := hC'
  obtain ⟨k9, hk9⟩ := pl_at (D := g.1) ho.1 (cE_obj (M := M) (N := N) ho.2)
  obtain ⟨w1, w2, w3, w4, w5⟩ := hw
  refine va_runV (R := R) (As := As) (rest := rest) (n := na) ⟨hx, hb, hml, hown, hts⟩ hM ⟨⟨rfl, rfl, hR.1, ?_, wy_pay hC w1, List.mem_cons_self, hts _ w1, hts _ w2, w3, w4, hts _ hlk⟩, hts _ him, hts _ hsel⟩ ⟨Wd.blind, va_recv hF.1 hP hc hk9, fun U hU hW => Wd.pre hC hP hS _ U hU hW⟩ rfl hn hls hst (lv_room hcat) hdg ⟨hR.2.2.1, hR.2.2.2⟩
  show 8 + (n + 11) + 64 * d ≤ R.locals
  have := hR.2.1
  omega
theorem r_runS (hC : Cx g p s m args c cc nL own) (hP : wP g M N H) (hS : va_S (wA g) s.heap H locs) {y : MethodName} {b : ByteArray} {n na d index : Nat} {r : Option FieldType} {As : List Value} {Qc : Array Value → State → Outcome → State → Prop} (hM : KM g l y b n r d As M N Qc) (hw : CWd own index y b n r na) (hlk : Cond.methodLink own index y ∈ wsL_law) (hsta : Cond.static y ∈ wsL_law) (hR : Rm R d cells slots) (hn : As.length = na) (hls : ls.size = nL) (hst : st = As.reverse ++ rest) (hcat : (rest.map fun v => v.category).sum ≤ 8) (hdg : decode cc pc = .ok (.invokestatic index, 3)) :
    va_Run p l e R s m args below meth c H locs cells slots 0 0 (F0 m pc ls st) rest (Qc As.toArray) (wA g) := by
  have hC' := hC
  obtain ⟨hx, hb, hml, hown, hts, hF, hnd⟩ := hC'
  obtain ⟨w1, w2, w3, w4, w5⟩ := hw
  refine va_runS (R := R) (As := As) (rest := rest) (n := na) ⟨hx, hb, hml, hown, hts⟩ hM ⟨⟨rfl, rfl, hR.1, ?_, wy_pay hC w1, List.mem_cons_self, hts _ w1, hts _ w2, w3, w4, hts _ hlk⟩, hts _ hsta⟩ ⟨Wd.blind, fun U hU hW => Wd.pre hC hP hS _ U hU hW⟩ rfl hn hls hst (lv_room hcat) hdg ⟨hR.2.2.1, hR.2.2.2⟩
  show 8 + (n + 11) + 64 * d ≤ R.locals
  have := hR.2.1
  omega
theorem r_runSN (hC : Cx g p s m args c cc nL own) (hP : wP g M N H) (hS : va_S (wA g) s.heap H locs) {y : MethodName} {b : ByteArray} {n na d index : Nat} {host : String} {r : Option FieldType} {As : List Value} {Qc : Array Value → State → Outcome → State → Prop} (hM : KM g l y b n r d As M N Qc) (hw : CWd own index y b n r na) (hlk : va_Nw (.methodLinkNest own index y host) s) (hsta : Cond.static y ∈ wsL_law) (hR : Rm R d cells slots) (hn : As.length = na) (hls : ls.size = nL) (hst : st = As.reverse ++ rest) (hcat : (rest.map fun v => v.category).sum ≤ 8) (hdg : decode cc pc = .ok (.invokestatic index, 3)) :
    va_Run p l e R s m args below meth c H locs cells slots 0 0 (F0 m pc ls st) rest (Qc As.toArray) (wA g) := by
  have hC' := hC
  obtain ⟨hx, hb, hml, hown, hts, hF, hnd⟩ := hC'
  obtain ⟨w1, w2, w3, w4, w5⟩ := hw
  refine va_runSN (R := R) (As := As) (rest := rest) (n := na) ⟨hx, hb, hml, hown, hts⟩ hM ⟨⟨⟨rfl, rfl, hR.1, ?_, wy_pay hC w1, List.mem_cons_self⟩, hts _ w1, hts _ w2, w3, w4, va_Nw.use rfl hlk⟩, hts _ hsta, trivial⟩ ⟨Wd.blind, fun U hU hW => Wd.pre hC hP hS _ U hU hW⟩ rfl hn hls hst (lv_room hcat) hdg ⟨hR.2.2.1, hR.2.2.2⟩
  show 8 + (n + 11) + 64 * d ≤ R.locals
  have := hR.2.1
  omega
/-- a call's way on, by what it answers -/
theorem r_goI {a : Array Value} {v : Int32} (hr : va_Run p l e R s m args below meth c H locs cells slots 0 0 (F0 m pc ls st) rest (QI g v M' N' a) (wA g)) (hS : va_S (wA g) s.heap H locs) (kk : ∀ (H : Heap) (locs : List Loc), wP g M' N' H → va_S (wA g) s.heap H locs → W p l e R s m args below meth c H locs cells slots Q (F0 m (pc + 3) ls (.int v :: rest))) : W p l e R s m args below meth c H locs cells slots Q (F0 m pc ls st) := by
  refine va_calli hr hS (fun _ _ h => h) (fun _ h => h) (fun r u t H1 locs1 ht hvm hw hB hz hk hS1 => ?_)
  obtain ⟨rfl, rfl⟩ := hw
  exact kk H1 locs1 (by rw [← ht]; exact hB) hS1
theorem r_goL {a : Array Value} {v : Int64} (hr : va_Run p l e R s m args below meth c H locs cells slots 0 0 (F0 m pc ls st) rest (QL g v M' N' a) (wA g)) (hS : va_S (wA g) s.heap H locs) (kk : ∀ (H : Heap) (locs : List Loc), wP g M' N' H → va_S (wA g) s.heap H locs → W p l e R s m args below meth c H locs cells slots Q (F0 m (pc + 3) ls (.long v :: rest))) : W p l e R s m args below meth c H locs cells slots Q (F0 m pc ls st) := by
  refine va_calll hr hS (fun _ _ h => h) (fun _ h => h) (fun r u t H1 locs1 ht hvm hw hB hz hk hS1 => ?_)
  obtain ⟨rfl, rfl⟩ := hw
  exact kk H1 locs1 (by rw [← ht]; exact hB) hS1
theorem r_goV {a : Array Value} (hr : va_Run p l e R s m args below meth c H locs cells slots 0 0 (F0 m pc ls st) rest (QV g M' N' a) (wA g)) (hS : va_S (wA g) s.heap H locs) (kk : ∀ (H : Heap) (locs : List Loc), wP g M' N' H → va_S (wA g) s.heap H locs → W p l e R s m args below meth c H locs cells slots Q (F0 m (pc + 3) ls rest)) : W p l e R s m args below meth c H locs cells slots Q (F0 m pc ls st) := by
  refine va_callv hr hS (fun _ _ h => h) (fun _ h => h) (fun u t H1 locs1 ht hvm hw hB hz hk hS1 => ?_)
  subst hw
  exact kk H1 locs1 (by rw [← ht]; exact hB) hS1
theorem r_goR {a : Array Value} {v : Nat} (hr : va_Run p l e R s m args below meth c H locs cells slots 0 0 (F0 m pc ls st) rest (QR g v M' N' a) (wA g)) (hS : va_S (wA g) s.heap H locs) (kk : ∀ (H : Heap) (locs : List Loc), wP g M' N' H → va_S (wA g) s.heap H locs → W p l e R s m args below meth c H locs cells slots Q (F0 m (pc + 3) ls (.ref v :: rest))) : W p l e R s m args below meth c H locs cells slots Q (F0 m pc ls st) := by
  refine va_callr hr hS (fun _ _ h => h) (fun _ h => h) (fun u a t H1 locs1 ht hvm hw hB hz hk hS1 => ?_)
  subst hw
  obtain ⟨rfl, hB⟩ := hB
  exact kk H1 locs1 (by rw [← ht]; exact hB) hS1
/-- the ends -/
theorem e_I {v v' : Int32} (hC : Cx g p s m args c cc nL own) (hr : meth.sig.returnType = some .int) (hlk : meth.locks = false) (hP : wP g M N H) (hS : va_S (wA g) s.heap H locs) (hdg : decode cc pc = .ok (.ireturn, 1)) (hf : some v' = some v) : W p l e R s m args below meth c H locs 0 0 (MQ below (QI g v M N) args s 0 0 (wA g)) (F0 m pc ls [.int v']) :=
  W.iret hC.1 hC.2.1 hr (fun t ht hW => ⟨⟨v', (M, N), rfl, ⟨Option.some.inj hf, rfl⟩, by show wP g M N t.heap; rw [ht]; exact hP⟩, hS.F ht⟩) hS.2.2 hdg hlk
theorem e_IM {v v' : Int32} (hC : Cx g p s m args c cc nL own) (hr : meth.sig.returnType = some .int) (hlk : meth.locks = false) (hP : wP g M N H) (hS : va_S (wA g) s.heap H locs) (hdg : decode cc pc = .ok (.ireturn, 1)) (hf : some (v', M) = some (v, M')) : W p l e R s m args below meth c H locs 0 0 (MQ below (QI g v M' N) args s 0 0 (wA g)) (F0 m pc ls [.int v']) := by
  obtain ⟨h1, h2⟩ := Prod.mk.inj (Option.some.inj hf)
  subst h2
  exact e_I hC hr hlk hP hS hdg (by rw [h1])
theorem e_IN {v v' : Int32} (hC : Cx g p s m args c cc nL own) (hr : meth.sig.returnType = some .int) (hlk : meth.locks = false) (hP : wP g M N H) (hS : va_S (wA g) s.heap H locs) (hdg : decode cc pc = .ok (.ireturn, 1)) (hf : some (v', M, N) = some (v, M', N')) : W p l e R s m args below meth c H locs 0 0 (MQ below (QI g v M' N') args s 0 0 (wA g)) (F0 m pc ls [.int v']) := by
  obtain ⟨h1, h2⟩ := Prod.mk.inj (Option.some.inj hf)
  obtain ⟨h2, h3⟩ := Prod.mk.inj h2
  subst h2
  subst h3
  exact e_I hC hr hlk hP hS hdg (by rw [h1])
theorem e_Z {v v' : Int32} (hC : Cx g p s m args c cc nL own) (hr : meth.sig.returnType = some .boolean) (hlk : meth.locks = false) (hn : v' = 0 ∨ v' = 1) (hP : wP g M N H) (hS : va_S (wA g) s.heap H locs) (hdg : decode cc pc = .ok (.ireturn, 1)) (hf : some v' = some v) : W p l e R s m args below meth c H locs 0 0 (MQ below (QI g v M N) args s 0 0 (wA g)) (F0 m pc ls [.int v']) :=
  W.zret hC.1 hC.2.1 hr (by rcases hn with rfl | rfl <;> rfl) (fun t ht hW => ⟨⟨v', (M, N), rfl, ⟨Option.some.inj hf, rfl⟩, by show wP g M N t.heap; rw [ht]; exact hP⟩, hS.F ht⟩) hS.2.2 hdg hlk
theorem e_ZM {v v' : Int32} (hC : Cx g p s m args c cc nL own) (hr : meth.sig.returnType = some .boolean) (hlk : meth.locks = false) (hn : v' = 0 ∨ v' = 1) (hP : wP g M N H) (hS : va_S (wA g) s.heap H locs) (hdg : decode cc pc = .ok (.ireturn, 1)) (hf : some (v', M) = some (v, M')) : W p l e R s m args below meth c H locs 0 0 (MQ below (QI g v M' N) args s 0 0 (wA g)) (F0 m pc ls [.int v']) := by
  obtain ⟨h1, h2⟩ := Prod.mk.inj (Option.some.inj hf)
  subst h2
  exact e_Z hC hr hlk hn hP hS hdg (by rw [h1])
theorem e_L {v v' : Int64} (hC : Cx g p s m args c cc nL own) (hr : meth.sig.returnType = some .long) (hlk : meth.locks = false) (hP : wP g M N H) (hS : va_S (wA g) s.heap H locs) (hdg : decode cc pc = .ok (.lreturn, 1)) (hf : some v' = some v) : W p l e R s m args below meth c H locs 0 0 (MQ below (QL g v M N) args s 0 0 (wA g)) (F0 m pc ls [.long v']) :=
  W.lret hC.1 hC.2.1 hr (fun t ht hW => ⟨⟨v', (M, N), rfl, ⟨Option.some.inj hf, rfl⟩, by show wP g M N t.heap; rw [ht]; exact hP⟩, hS.F ht⟩) hS.2.2 hdg hlk
theorem e_LM {v v' : Int64} (hC : Cx g p s m args c cc nL own) (hr : meth.sig.returnType = some .long) (hlk : meth.locks = false) (hP : wP g M N H) (hS : va_S (wA g) s.heap H locs) (hdg : decode cc pc = .ok (.lreturn, 1)) (hf : some (v', M) = some (v, M')) : W p l e R s m args below meth c H locs 0 0 (MQ below (QL g v M' N) args s 0 0 (wA g)) (F0 m pc ls [.long v']) := by
  obtain ⟨h1, h2⟩ := Prod.mk.inj (Option.some.inj hf)
  subst h2
  exact e_L hC hr hlk hP hS hdg (by rw [h1])
theorem e_VM (hC : Cx g p s m args c cc nL own) (hr : meth.sig.returnType = none) (hlk : meth.locks = false) (hP : wP g M N H) (hS : va_S (wA g) s.heap H locs) (hdg : decode cc pc = .ok (.return_, 1)) (hf : some M = some M') : W p l e R s m args below meth c H locs 0 0 (MQ below (QV g M' N) args s 0 0 (wA g)) (F0 m pc ls []) := by
  obtain rfl := Option.some.inj hf
  exact W.vret hC.1 hC.2.1 hr (fun t ht hW => ⟨⟨(M, N), rfl, rfl, by show wP g M N t.heap; rw [ht]; exact hP⟩, hS.F ht⟩) hS.2.2 hdg hlk
theorem e_RM {v v' : Nat} {rt : FieldType} (hC : Cx g p s m args c cc nL own) (hr : meth.sig.returnType = some rt) (hrt : (∃ n, rt = .object n) ∨ ∃ t, rt = .array t) (hlk : meth.locks = false) (hP : wP g M N H) (hS : va_S (wA g) s.heap H locs) (hdg : decode cc pc = .ok (.areturn, 1)) (hf : some (v', M) = some (v, M')) : W p l e R s m args below meth c H locs 0 0 (MQ below (QR g v M' N) args s 0 0 (wA g)) (F0 m pc ls [.ref v']) := by
  obtain ⟨rfl, rfl⟩ := Prod.mk.inj (Option.some.inj hf)
  exact W.aret hC.1 hC.2.1 hr hrt (Or.inr ⟨v', rfl⟩) (fun t ht hW => ⟨⟨(M, N), v', rfl, rfl, rfl, by show wP g M N t.heap; rw [ht]; exact hP⟩, hS.F ht⟩) hS.2.2 hdg hlk
theorem r_getI (hC : Cx g p s m args c cc nL own) (hP : wP g M N H) {a ci index : Nat} {sl : List (Nat ⊕ Option Nat)} {C : String} {T : u_T} {Nn : Nat} (ho : oAt g a ci sl) {k : Nat} (hf : FL own ci index k C T Nn) (hq : sl[k]? = some (.inl 0)) (hdg : decode cc pc = .ok (.getfield index, 3))
    (kk : W p l e R s m args below meth c H locs cells slots Q (F0 m (pc + 3) ls (.int (M a k) :: rest))) : W p l e R s m args below meth c H locs cells slots Q (F0 m pc ls (.ref a :: rest)) := r_get hC hP ho hf hq hdg kk
theorem r_getL (hC : Cx g p s m args c cc nL own) (hP : wP g M N H) {a ci index : Nat} {sl : List (Nat ⊕ Option Nat)} {C : String} {T : u_T} {Nn : Nat} (ho : oAt g a ci sl) {k : Nat} (hf : FL own ci index k C T Nn) (hq : sl[k]? = some (.inl 1)) (hdg : decode cc pc = .ok (.getfield index, 3))
    (kk : W p l e R s m args below meth c H locs cells slots Q (F0 m (pc + 3) ls (.long (N a k) :: rest))) : W p l e R s m args below meth c H locs cells slots Q (F0 m pc ls (.ref a :: rest)) := r_get hC hP ho hf hq hdg kk
theorem r_getR (hC : Cx g p s m args c cc nL own) (hP : wP g M N H) {a ci index : Nat} {sl : List (Nat ⊕ Option Nat)} {C : String} {T : u_T} {Nn : Nat} (ho : oAt g a ci sl) {k : Nat} (hf : FL own ci index k C T Nn) {v : Nat} (hq : sl[k]? = some (.inr (some v))) (hdg : decode cc pc = .ok (.getfield index, 3))
    (kk : W p l e R s m args below meth c H locs cells slots Q (F0 m (pc + 3) ls (.ref v :: rest))) : W p l e R s m args below meth c H locs cells slots Q (F0 m pc ls (.ref a :: rest)) := r_get hC hP ho hf hq hdg kk
theorem r_aalR (hC : Cx g p s m args c cc nL own) (hP : wP g M N H) {a n t0 : Nat} {cA : ClassId} {f : Nat → Option Nat} {C : String} (ha : rAt g a cA n f) (ht : (tys g)[t0]? = some (cA, .object C)) {i : Int32} (hin : vp_in i n) {v : Nat} (hv : f i.toNatClampNeg = some v) (hdg : decode cc pc = .ok (.aaload, 1))
    (kk : W p l e R s m args below meth c H locs cells slots Q (F0 m (pc + 1) ls (.ref v :: rest))) : W p l e R s m args below meth c H locs cells slots Q (F0 m pc ls (.int i :: .ref a :: rest)) := r_aald hC hP ha ht hin hdg (by rw [hv]; exact kk)
theorem r_alen (hC : Cx g p s m args c cc nL own) (hP : wP g M N H) {a n : Nat} (ha : iAt g a n) (hdg : decode cc pc = .ok (.arraylength, 1))
    (kk : W p l e R s m args below meth c H locs cells slots Q (F0 m (pc + 1) ls (.int (Int32.ofNat n) :: rest))) : W p l e R s m args below meth c H locs cells slots Q (F0 m pc ls (.ref a :: rest)) := by
  obtain ⟨hx, hb, hml, hown, hts, hF, hnd⟩ := hC
  obtain ⟨k9, hk9⟩ := pl_at (D := g.1) ha.1 (cE_arr (M := M) (N := N) ha.2)
  exact va_alen (D := g.1) hx hb hF.1 hP k9 0 hk9 (ty := .int) rfl rfl hdg kk
theorem r_min (hC : Cx g p s m args c cc nL own) (hls : ls.size = nL) {index : Nat} (hlk : Cond.methodLink own index Lib.Math.min.name ∈ wsL_law) (hst : Cond.static Lib.Math.min.name ∈ wsL_law) (hin : Cond.initialized "java/lang/Math" ∈ wsL_law) (hco : Cond.code Lib.Math.min.name Lib.Math.min.code 2 (some .int) ∈ wsL_law) (hR : Rm R 0 cells slots) (hcat : (rest.map fun v => v.category).sum ≤ 8) {x y : Int32} (hdg : decode cc pc = .ok (.invokestatic index, 3))
    (kk : W p l e R s m args below meth c H locs cells slots Q (F0 m (pc + 3) ls (.int (if y < x then y else x) :: rest))) : W p l e R s m args below meth c H locs cells slots Q (F0 m pc ls (.int y :: .int x :: rest)) := by
  obtain ⟨hx, hb, hml, hown, hts, hF, hnd⟩ := hC
  have h2 := hR.2.1
  exact va_mmin hx hb (hml.trans hls.symm) hown (hts _ hlk) (hts _ hst) (hts _ hin) (hts _ hco) (by have := hR.1; omega) (by omega) hR.2.2.1 hR.2.2.2 hdg kk
theorem r_copy (hC : Cx g p s m args c cc nL own) (hls : ls.size = nL) (hP : wP g M N H) (hS : va_S (wA g) s.heap H locs) {index : Nat} (hlk : Cond.methodLink own index arraycopyName ∈ wsL_law) (hna : Cond.native arraycopyName ∈ wsL_law) (hst : Cond.static arraycopyName ∈ wsL_law) (hin : Cond.initialized "java/lang/System" ∈ wsL_law) {a0 a n0 n1 : Nat} (ha0 : iAt g a0 n0) (ha : iAt g a n1) {sp dp n : Int32} (h1 : ¬ sp < 0) (h2 : ¬ dp < 0) (h3 : ¬ n < 0) (h4 : sp.toNatClampNeg + n.toNatClampNeg ≤ n0) (h5 : dp.toNatClampNeg + n.toNatClampNeg ≤ n1) (hR : Rm R 0 cells slots) (hcat : (rest.map fun v => v.category).sum ≤ 8) (hdg : decode cc pc = .ok (.invokestatic index, 3))
    (kk : ∀ (H : Heap) (locs : List Loc), wP g (va_up M a (va_cpy (M a0) (M a) sp.toNatClampNeg dp.toNatClampNeg n.toNatClampNeg)) N H → va_S (wA g) s.heap H locs → W p l e R s m args below meth c H locs cells slots Q (F0 m (pc + 3) ls rest)) : W p l e R s m args below meth c H locs cells slots Q (F0 m pc ls (.int n :: .int dp :: .ref a :: .int sp :: .ref a0 :: rest)) := by
  obtain ⟨hx, hb, hml, hown, hts, hF, hnd⟩ := hC
  obtain ⟨k8, hk8⟩ := pl_at (D := g.1) ha0.1 (cE_arr (M := M) (N := N) ha0.2)
  obtain ⟨k9, hk9⟩ := pl_at (D := g.1) ha.1 (cE_arr (M := M) (N := N) ha.2)
  have hz := hR.2.1
  have hq : nativeFrameWords "java/lang/System" "arraycopy" 5 ≤ 40 := by decide
  refine va_copyi (D := g.1) (ty := .int) hx hb (hml.trans hls.symm) hown (hts _ hlk) (hts _ hna) (hts _ hst) (hts _ hin) hF.1 hP (wD hnd _ (fun _ h => h)) hS k8 k9 0 0 hk8 hk9 rfl rfl rfl h1 h2 h3 h4 h5 (fun _ _ => rfl) (by have := hR.1; omega) (by omega) hdg (fun H1 locs1 hP1 hD1 hS1 => ?_)
  rw [pl_put (M' := va_up M a (va_cpy (M a0) (M a) sp.toNatClampNeg dp.toNatClampNeg n.toNatClampNeg)) (N' := N) hnd ha.1 (cE_arr ha.2) hk9 (cE_upA ha.2 _)] at hP1
  exact kk H1 locs1 hP1 hS1
theorem r_zast (hC : Cx g p s m args c cc nL own) (hP : wP g M N H) (hS : va_S (wA g) s.heap H locs) {a n : Nat} (ha : zAt g a n) {i v : Int32} (hv : vp_nar .boolean v = v) (hin : vp_in i n) (hdg : decode cc pc = .ok (.bastore, 1))
    (kk : ∀ (H : Heap) (locs : List Loc), wP g (up2 M a i.toNatClampNeg v) N H → va_S (wA g) s.heap H locs → W p l e R s m args below meth c H locs cells slots Q (F0 m (pc + 1) ls rest)) : W p l e R s m args below meth c H locs cells slots Q (F0 m pc ls (.int v :: .int i :: .ref a :: rest)) := by
  obtain ⟨hx, hb, hml, hown, hts, hF, hnd⟩ := hC
  obtain ⟨k9, hk9⟩ := pl_at (D := g.1) ha.1 (cE_arr (M := M) (N := N) ha.2)
  refine va_zast (D := g.1) hx hb hF.1 hP (wD hnd _ (fun _ h => h)) hS k9 1 hk9 rfl hin hdg (fun H1 locs1 hP1 hD1 hS1 => ?_)
  rw [hv] at hP1
  rw [pl_put (M' := up2 M a i.toNatClampNeg v) (N' := N) hnd ha.1 (cE_arr ha.2) hk9 (cE_upA ha.2 _)] at hP1
  exact kk H1 locs1 hP1 hS1
theorem r_fact (hC : Cx g p s m args c cc nL RX11) (hS : va_S (wA g) s.heap H locs) {index : Nat} (hlk : Cond.fieldLink RX11 index RX11 "FACTORIALS" "[I" ∈ wsL_law) (hdg : decode cc pc = .ok (.getstatic index, 3))
    (kk : W p l e R s m args below meth c H locs cells slots Q (F0 m (pc + 3) ls (.ref (eF g) :: rest))) : W p l e R s m args below meth c H locs cells slots Q (F0 m pc ls rest) := by
  obtain ⟨hx, hb, hml, hown, hts, hF, hnd⟩ := hC
  exact va_gets (C := RX11) (ref := RX11) hx hb hF.2.2.1.1 hS hown (hts _ hlk) (fun _ h => h) hdg kk
theorem r_factN (hC : Cx g p s m args c cc nL RX0) (hS : va_S (wA g) s.heap H locs) (hdg : decode cc pc = .ok (.getstatic 153, 3))
    (kk : W p l e R s m args below meth c H locs cells slots Q (F0 m (pc + 3) ls (.ref (eF g) :: rest))) : W p l e R s m args below meth c H locs cells slots Q (F0 m pc ls rest) := by
  obtain ⟨hx, hb, hml, hown, hts, hF, hnd⟩ := hC
  exact va_getsN (C := RX11) (ref := RX11) hx hb hF.2.2.1.1 hS hown (va_Nw.use rfl hF.2.1.2.2.2.2) (fun _ h => h) hdg kk
theorem r_fald (hC : Cx g p s m args c cc nL own) (hS : va_S (wA g) s.heap H locs) {i : Int32} (hin : vp_in i 5) (hdg : decode cc pc = .ok (.iaload, 1))
    (kk : W p l e R s m args below meth c H locs cells slots Q (F0 m (pc + 1) ls (.int (facts.getD i.toNatClampNeg 0) :: rest))) : W p l e R s m args below meth c H locs cells slots Q (F0 m pc ls (.int i :: .ref (eF g) :: rest)) := by
  obtain ⟨hx, hb, hml, hown, hts, hF, hnd⟩ := hC
  exact va_ti hx hb hF.2.2.1.2 hS hin rfl hdg kk
end RWS
/-! what a hypothesis 'f .. = some ..' says, by f's first piece -/
def ck {α : Type} (i : Int32) (n : Nat) (k : Option α) : Option α := if ckd i n then k else none
theorem ck_s {α : Type} {i : Int32} {n : Nat} {k : Option α} {r : α} (h : ck i n k = some r) : vp_in i n ∧ k = some r := by
  unfold ck at h
  split at h
  · exact ⟨ckd_in (by assumption), h⟩
  · cases h
def cz {α : Type} (y : Int32) (k : Option α) : Option α := if y = 0 then none else k
theorem cz_s {α : Type} {y : Int32} {k : Option α} {r : α} (h : cz y k = some r) : ¬ y = 0 ∧ k = some r := by
  unfold cz at h
  split at h
  · cases h
  · exact ⟨by assumption, h⟩
def czL {α : Type} (y : Int64) (k : Option α) : Option α := if y = 0 then none else k
theorem czL_s {α : Type} {y : Int64} {k : Option α} {r : α} (h : czL y k = some r) : ¬ y = 0 ∧ k = some r := by
  unfold czL at h
  split at h
  · cases h
  · exact ⟨by assumption, h⟩
def cb {α : Type} (v : Int32) (k : Option α) : Option α := if v = 0 ∨ v = 1 then k else none
theorem cb_s {α : Type} {v : Int32} {k : Option α} {r : α} (h : cb v k = some r) : (v = 0 ∨ v = 1) ∧ k = some r := by
  unfold cb at h
  split at h
  · exact ⟨by assumption, h⟩
  · cases h
theorem bd_s {α β : Type} {x : Option α} {f : α → Option β} {r : β} (h : x.bind f = some r) : ∃ a, x = some a ∧ f a = some r := Option.bind_eq_some_iff.mp h
theorem if_t {α : Type} {c : Prop} {inst : Decidable c} {a b : α} {r : α} (hc : c) (h : @ite _ c inst a b = r) : a = r := by rw [if_pos hc] at h; exact h
theorem if_f {α : Type} {c : Prop} {inst : Decidable c} {a b : α} {r : α} (hc : ¬ c) (h : @ite _ c inst a b = r) : b = r := by rw [if_neg hc] at h; exact h
/-- a name for a value: nothing is done -/
def bnd {α β : Type} (e : α) (f : α → β) : β := f e
theorem bs {α β : Type} {e x : α} {f : α → Option β} {r : β} (ex : x = e) (hf : bnd e f = some r) : f x = some r := by subst ex; exact hf
theorem bsM {β : Type} {g : Ev} {e : Mm} {N : Ml} {H : Heap} {f : Mm → Option β} {r : β} (hf : bnd e f = some r) (hP : wP g e N H) : ∃ x, x = e ∧ f x = some r ∧ wP g x N H := ⟨e, rfl, hf, hP⟩
theorem bsN {β : Type} {g : Ev} {M : Mm} {e : Ml} {H : Heap} {f : Ml → Option β} {r : β} (hf : bnd e f = some r) (hP : wP g M e H) : ∃ x, x = e ∧ f x = some r ∧ wP g M x H := ⟨e, rfl, hf, hP⟩
def bd2 {α β γ : Type} (x : Option (α × β)) (f : α → β → Option γ) : Option γ := x.bind fun u => f u.1 u.2
theorem bd2_s {α β γ : Type} {x : Option (α × β)} {f : α → β → Option γ} {r : γ} (h : bd2 x f = some r) : ∃ a b, x = some (a, b) ∧ f a b = some r := by
  obtain ⟨u, h1, h2⟩ := Option.bind_eq_some_iff.mp h
  exact ⟨u.1, u.2, h1, h2⟩
def ccp {α : Type} (sp dp n : Int32) (n0 n1 : Nat) (k : Option α) : Option α := if ¬ sp < 0 ∧ ¬ dp < 0 ∧ ¬ n < 0 ∧ sp.toNatClampNeg + n.toNatClampNeg ≤ n0 ∧ dp.toNatClampNeg + n.toNatClampNeg ≤ n1 then k else none
theorem ccp_s {α : Type} {sp dp n : Int32} {n0 n1 : Nat} {k : Option α} {r : α} (h : ccp sp dp n n0 n1 k = some r) : (¬ sp < 0 ∧ ¬ dp < 0 ∧ ¬ n < 0 ∧ sp.toNatClampNeg + n.toNatClampNeg ≤ n0 ∧ dp.toNatClampNeg + n.toNatClampNeg ≤ n1) ∧ k = some r := by
  unfold ccp at h
  split at h
  · exact ⟨by assumption, h⟩
  · cases h
abbrev jr (x y : Int32) : Int32 := x - x / y * y
abbrev jrL (x y : Int64) : Int64 := x - x / y * y
abbrev jsl (x y : Int32) : Int32 := x <<< (y &&& 31)
abbrev jsr (x y : Int32) : Int32 := x >>> (y &&& 31)
abbrev jmin (x y : Int32) : Int32 := if y < x then y else x
abbrev jusr (x y : Int32) : Int32 := (x.toUInt32 >>> (y.toUInt32 &&& Int32.toUInt32 31)).toInt32
abbrev jslL (x : Int64) (y : Int32) : Int64 := x <<< (y.toInt64 &&& 63)
abbrev jsrL (x : Int64) (y : Int32) : Int64 := x >>> (y.toInt64 &&& 63)
abbrev jusrL (x : Int64) (y : Int32) : Int64 := (x.toUInt64 >>> (y.toInt64.toUInt64 &&& Int64.toUInt64 63)).toInt64
end
section
/-! the shapes of the objects, by where they lie: a constructor lays its arrays behind its object, in order -/
def slRing (kd a : Nat) : List (Nat ⊕ Option Nat) := [.inr (some kd), .inr (some (a + 1)), .inr (some (a + 2)), .inr (some (a + 3)), .inr (some (a + 4)), .inr (some (a + 5)), .inr (some (a + 6)), .inr (some (a + 7)), .inr (some (a + 8)), .inl 0, .inl 0, .inl 0, .inl 0]
def oKinds (g : Ev) (kd : Nat) : Prop := rAt g kd (eP g) 5 (fun i => some (kd + 1 + i)) ∧ oAt g (kd + 1) 3 [] ∧ oAt g (kd + 2) 10 [] ∧ oAt g (kd + 3) 1 [] ∧ oAt g (kd + 4) 8 [] ∧ oAt g (kd + 5) 6 []
def oRing (g : Ev) (kd a : Nat) : Prop := oAt g a 5 (slRing kd a) ∧ iAt g (a + 1) 5 ∧ iAt g (a + 2) 5 ∧ iAt g (a + 3) 120 ∧ iAt g (a + 4) 5 ∧ iAt g (a + 5) 4 ∧ iAt g (a + 6) 4 ∧ iAt g (a + 7) 4 ∧ iAt g (a + 8) 4 ∧ oKinds g kd
def slStory (b : Nat) : List (Nat ⊕ Option Nat) := [.inr (some (b + 1)), .inr (some (b + 10)), .inl 0, .inl 0]
def oStory (g : Ev) (kd b : Nat) : Prop := oAt g b 7 (slStory b) ∧ oRing g kd (b + 1) ∧ rAt g (b + 10) (eR g) 6 (fun i => some (b + 11 + 9 * i)) ∧ ∀ i, i < 6 → oRing g kd (b + 11 + 9 * i)
def oLump (g : Ev) (a : Nat) : Prop := oAt g a 2 [.inl 0, .inl 0, .inl 0]
def slCourse (r c : Nat) : List (Nat ⊕ Option Nat) := [.inr (some r), .inr (some (c + 1)), .inr (some (c + 10)), .inr (some (c + 11)), .inr (some (c + 12)), .inr (some (c + 13)), .inr (some (c + 14)), .inr (some (c + 15))]
def oCourse (g : Ev) (kd r c : Nat) : Prop := oAt g c 0 (slCourse r c) ∧ oRing g kd r ∧ oRing g kd (c + 1) ∧ oLump g (c + 10) ∧ iAt g (c + 11) 5 ∧ iAt g (c + 12) 120 ∧ iAt g (c + 13) 120 ∧ iAt g (c + 14) 120 ∧ iAt g (c + 15) 16
def slText (t : Nat) : List (Nat ⊕ Option Nat) := [.inr (some (t + 1)), .inl 0, .inl 0, .inl 0, .inl 0]
def oText (g : Ev) (t : Nat) : Prop := oAt g t 9 (slText t) ∧ iAt g (t + 1) 250
def slReader (t rd : Nat) : List (Nat ⊕ Option Nat) := [.inr (some t), .inr (some (rd + 1)), .inr (some (rd + 10))]
def oReader (g : Ev) (kd t rd : Nat) : Prop := oAt g rd 4 (slReader t rd) ∧ oText g t ∧ oRing g kd (rd + 1) ∧ iAt g (rd + 10) 4
def slTop (x : Nat) : List (Nat ⊕ Option Nat) := [.inr (some (x + 7)), .inr (some (x + 72)), .inr (some (x + 203)), .inr (some (x + 204)), .inr (some (x + 220)), .inr (some (x + 222)), .inr (some (x + 233)), .inl 1, .inl 1]
def oTop (g : Ev) (x : Nat) : Prop := oAt g x 11 (slTop x) ∧ oStory g (x + 1) (x + 7) ∧ rAt g (x + 72) (eS g) 2 (fun i => some (x + 73 + 65 * i)) ∧ (∀ i, i < 2 → oStory g (x + 1) (x + 73 + 65 * i)) ∧ zAt g (x + 203) 2 ∧ oCourse g (x + 1) (x + 7 + 1) (x + 204) ∧ oText g (x + 220) ∧ oReader g (x + 1) (x + 220) (x + 222) ∧ iAt g (x + 233) 3
def slModel (y : Nat) : List (Nat ⊕ Option Nat) := [.inr (some (y + 1)), .inr (some (y + 2)), .inr (some (y + 3)), .inr (some (y + 4)), .inl 1, .inl 1, .inr (some (y + 5)), .inr (some (y + 6)), .inr (some (y + 7)), .inl 0, .inl 0, .inl 0, .inl 0, .inl 0, .inr (some (y + 8)), .inr (some (y + 9)), .inr (some (y + 10)), .inr (some (y + 11)), .inl 0, .inl 0, .inl 0, .inl 0, .inl 0, .inr (some (y + 12)), .inr (some (y + 13))]
def oModel (g : Ev) (y : Nat) : Prop := oAt g y 12 (slModel y) ∧ iAt g (y + 1) 913 ∧ iAt g (y + 2) 1826 ∧ zAt g (y + 3) 2 ∧ iAt g (y + 4) 3 ∧ iAt g (y + 5) 120 ∧ iAt g (y + 6) 120 ∧ iAt g (y + 7) 4 ∧ iAt g (y + 8) 1560 ∧ iAt g (y + 9) 5 ∧ iAt g (y + 10) 224 ∧ iAt g (y + 11) 250 ∧ iAt g (y + 12) 151 ∧ iAt g (y + 13) 4
end
