-- ===== PART A: goes FIRST, ahead of the names: the tables' words, and 'selects' of the private methods out of them =====
/-- a private method of a class that the tables say can be made, by its rows of tables_1 -/
def lw_okq (q : MethodName × Nat) : Prop := (q.1.cls ≠ "java/lang/invoke/MethodHandle" ∧ q.1.cls ≠ "java/lang/invoke/VarHandle") ∧ Cond.instantiable q.1.cls q.2 ∈ tables_1 ∧ Cond.privateMethod q.1 ∈ tables_1 ∧ Cond.instanceMethod q.1 ∈ tables_1
theorem lw_p0 : lw_okq (⟨"CordDoors$History", "slotBehind", "(I)LCordDoors$State;"⟩, 3) := ⟨⟨by decide +kernel, by decide +kernel⟩, List.mem_of_getElem? (i := 144) (by decide +kernel), List.mem_of_getElem? (i := 246) (by decide +kernel), List.mem_of_getElem? (i := 247) (by decide +kernel)⟩
theorem lw_p1 : lw_okq (⟨"CordDoors$State", "opensUnless", "(II)I"⟩, 4) := ⟨⟨by decide +kernel, by decide +kernel⟩, List.mem_of_getElem? (i := 24) (by decide +kernel), List.mem_of_getElem? (i := 298) (by decide +kernel), List.mem_of_getElem? (i := 299) (by decide +kernel)⟩
theorem lw_p2 : lw_okq (⟨"CordDoors$Loom", "hasTooMany", "(II)Z"⟩, 6) := ⟨⟨by decide +kernel, by decide +kernel⟩, List.mem_of_getElem? (i := 30) (by decide +kernel), List.mem_of_getElem? (i := 314) (by decide +kernel), List.mem_of_getElem? (i := 315) (by decide +kernel)⟩
theorem lw_p3 : lw_okq (⟨"CordDoors$State", "reasonNotToShut", "(I)I"⟩, 4) := ⟨⟨by decide +kernel, by decide +kernel⟩, List.mem_of_getElem? (i := 24) (by decide +kernel), List.mem_of_getElem? (i := 343) (by decide +kernel), List.mem_of_getElem? (i := 344) (by decide +kernel)⟩
theorem lw_p4 : lw_okq (⟨"CordDoors$State", "shutsUnless", "(II)I"⟩, 4) := ⟨⟨by decide +kernel, by decide +kernel⟩, List.mem_of_getElem? (i := 24) (by decide +kernel), List.mem_of_getElem? (i := 347) (by decide +kernel), List.mem_of_getElem? (i := 348) (by decide +kernel)⟩
theorem lw_p5 : lw_okq (⟨"CordDoors$State", "reasonNotToOpenAsGuest", "(II)I"⟩, 4) := ⟨⟨by decide +kernel, by decide +kernel⟩, List.mem_of_getElem? (i := 24) (by decide +kernel), List.mem_of_getElem? (i := 411) (by decide +kernel), List.mem_of_getElem? (i := 412) (by decide +kernel)⟩
theorem lw_p6 : lw_okq (⟨"CordDoors$State", "isAtDoor", "(II)Z"⟩, 4) := ⟨⟨by decide +kernel, by decide +kernel⟩, List.mem_of_getElem? (i := 24) (by decide +kernel), List.mem_of_getElem? (i := 415) (by decide +kernel), List.mem_of_getElem? (i := 416) (by decide +kernel)⟩
theorem lw_p7 : lw_okq (⟨"CordDoors$State", "reasonNotToUse", "(II)I"⟩, 4) := ⟨⟨by decide +kernel, by decide +kernel⟩, List.mem_of_getElem? (i := 24) (by decide +kernel), List.mem_of_getElem? (i := 431) (by decide +kernel), List.mem_of_getElem? (i := 432) (by decide +kernel)⟩
theorem lw_p8 : lw_okq (⟨"CordDoors$Pad", "codeAt", "(I)I"⟩, 2) := ⟨⟨by decide +kernel, by decide +kernel⟩, List.mem_of_getElem? (i := 164) (by decide +kernel), List.mem_of_getElem? (i := 471) (by decide +kernel), List.mem_of_getElem? (i := 472) (by decide +kernel)⟩
theorem lw_p9 : lw_okq (⟨"CordDoors", "runDeedAt", "(I)I"⟩, 7) := ⟨⟨by decide +kernel, by decide +kernel⟩, List.mem_of_getElem? (i := 16) (by decide +kernel), List.mem_of_getElem? (i := 492) (by decide +kernel), List.mem_of_getElem? (i := 493) (by decide +kernel)⟩
theorem lw_p10 : lw_okq (⟨"CordDoors$Pad", "placeOfLetter", "(I)I"⟩, 2) := ⟨⟨by decide +kernel, by decide +kernel⟩, List.mem_of_getElem? (i := 164) (by decide +kernel), List.mem_of_getElem? (i := 500) (by decide +kernel), List.mem_of_getElem? (i := 501) (by decide +kernel)⟩
theorem lw_p11 : lw_okq (⟨"CordDoors", "mostOfAllSets", "()I"⟩, 7) := ⟨⟨by decide +kernel, by decide +kernel⟩, List.mem_of_getElem? (i := 16) (by decide +kernel), List.mem_of_getElem? (i := 576) (by decide +kernel), List.mem_of_getElem? (i := 577) (by decide +kernel)⟩
theorem lw_p12 : lw_okq (⟨"CordDoors$Ways", "reach", "(II)V"⟩, 3) := ⟨⟨by decide +kernel, by decide +kernel⟩, List.mem_of_getElem? (i := 197) (by decide +kernel), List.mem_of_getElem? (i := 607) (by decide +kernel), List.mem_of_getElem? (i := 608) (by decide +kernel)⟩
theorem lw_p13 : lw_okq (⟨"CordDoors$Ways", "fewestOf", "(I)I"⟩, 3) := ⟨⟨by decide +kernel, by decide +kernel⟩, List.mem_of_getElem? (i := 197) (by decide +kernel), List.mem_of_getElem? (i := 614) (by decide +kernel), List.mem_of_getElem? (i := 615) (by decide +kernel)⟩
theorem lw_p14 : lw_okq (⟨"CordDoors$Ways", "goOnFrom", "(LCordDoors$Loom;III)V"⟩, 3) := ⟨⟨by decide +kernel, by decide +kernel⟩, List.mem_of_getElem? (i := 197) (by decide +kernel), List.mem_of_getElem? (i := 618) (by decide +kernel), List.mem_of_getElem? (i := 619) (by decide +kernel)⟩
theorem lw_p15 : lw_okq (⟨"CordDoors$Ways", "lineUpSets", "(LCordDoors$Loom;I)V"⟩, 3) := ⟨⟨by decide +kernel, by decide +kernel⟩, List.mem_of_getElem? (i := 197) (by decide +kernel), List.mem_of_getElem? (i := 638) (by decide +kernel), List.mem_of_getElem? (i := 639) (by decide +kernel)⟩
def lw_privs_1 : List (MethodName × Nat) := [(⟨"CordDoors$History", "slotBehind", "(I)LCordDoors$State;"⟩, 3), (⟨"CordDoors$State", "opensUnless", "(II)I"⟩, 4), (⟨"CordDoors$Loom", "hasTooMany", "(II)Z"⟩, 6), (⟨"CordDoors$State", "reasonNotToShut", "(I)I"⟩, 4), (⟨"CordDoors$State", "shutsUnless", "(II)I"⟩, 4), (⟨"CordDoors$State", "reasonNotToOpenAsGuest", "(II)I"⟩, 4), (⟨"CordDoors$State", "isAtDoor", "(II)Z"⟩, 4), (⟨"CordDoors$State", "reasonNotToUse", "(II)I"⟩, 4), (⟨"CordDoors$Pad", "codeAt", "(I)I"⟩, 2), (⟨"CordDoors", "runDeedAt", "(I)I"⟩, 7), (⟨"CordDoors$Pad", "placeOfLetter", "(I)I"⟩, 2), (⟨"CordDoors", "mostOfAllSets", "()I"⟩, 7), (⟨"CordDoors$Ways", "reach", "(II)V"⟩, 3), (⟨"CordDoors$Ways", "fewestOf", "(I)I"⟩, 3), (⟨"CordDoors$Ways", "goOnFrom", "(LCordDoors$Loom;III)V"⟩, 3), (⟨"CordDoors$Ways", "lineUpSets", "(LCordDoors$Loom;I)V"⟩, 3)]
theorem lw_r1 : ∀ q ∈ lw_privs_1, lw_okq q := List.forall_mem_cons.mpr ⟨lw_p0, List.forall_mem_cons.mpr ⟨lw_p1, List.forall_mem_cons.mpr ⟨lw_p2, List.forall_mem_cons.mpr ⟨lw_p3, List.forall_mem_cons.mpr ⟨lw_p4, List.forall_mem_cons.mpr ⟨lw_p5, List.forall_mem_cons.mpr ⟨lw_p6, List.forall_mem_cons.mpr ⟨lw_p7, List.forall_mem_cons.mpr ⟨lw_p8, List.forall_mem_cons.mpr ⟨lw_p9, List.forall_mem_cons.mpr ⟨lw_p10, List.forall_mem_cons.mpr ⟨lw_p11, List.forall_mem_cons.mpr ⟨lw_p12, List.forall_mem_cons.mpr ⟨lw_p13, List.forall_mem_cons.mpr ⟨lw_p14, List.forall_mem_cons.mpr ⟨lw_p15, fun _ h => absurd h List.not_mem_nil⟩⟩⟩⟩⟩⟩⟩⟩⟩⟩⟩⟩⟩⟩⟩⟩
theorem lw_p16 : lw_okq (⟨"CordDoors$Ways", "begin", "(I)V"⟩, 3) := ⟨⟨by decide +kernel, by decide +kernel⟩, List.mem_of_getElem? (i := 197) (by decide +kernel), List.mem_of_getElem? (i := 642) (by decide +kernel), List.mem_of_getElem? (i := 643) (by decide +kernel)⟩
theorem lw_p17 : lw_okq (⟨"CordDoors$Ways", "lessenAll", "(LCordDoors$Loom;II)I"⟩, 3) := ⟨⟨by decide +kernel, by decide +kernel⟩, List.mem_of_getElem? (i := 197) (by decide +kernel), List.mem_of_getElem? (i := 646) (by decide +kernel), List.mem_of_getElem? (i := 647) (by decide +kernel)⟩
theorem lw_p18 : lw_okq (⟨"CordDoors$Ways", "lessen", "(II)I"⟩, 3) := ⟨⟨by decide +kernel, by decide +kernel⟩, List.mem_of_getElem? (i := 197) (by decide +kernel), List.mem_of_getElem? (i := 652) (by decide +kernel), List.mem_of_getElem? (i := 653) (by decide +kernel)⟩
theorem lw_p19 : lw_okq (⟨"CordDoorsModel", "lay", "(III)V"⟩, 17) := ⟨⟨by decide +kernel, by decide +kernel⟩, List.mem_of_getElem? (i := 704) (by decide +kernel), List.mem_of_getElem? (i := 710) (by decide +kernel), List.mem_of_getElem? (i := 711) (by decide +kernel)⟩
theorem lw_p20 : lw_okq (⟨"CordDoorsModel", "openSet", "()I"⟩, 17) := ⟨⟨by decide +kernel, by decide +kernel⟩, List.mem_of_getElem? (i := 704) (by decide +kernel), List.mem_of_getElem? (i := 777) (by decide +kernel), List.mem_of_getElem? (i := 778) (by decide +kernel)⟩
theorem lw_p21 : lw_okq (⟨"CordDoorsModel", "of", "(II)I"⟩, 17) := ⟨⟨by decide +kernel, by decide +kernel⟩, List.mem_of_getElem? (i := 704) (by decide +kernel), List.mem_of_getElem? (i := 781) (by decide +kernel), List.mem_of_getElem? (i := 782) (by decide +kernel)⟩
theorem lw_p22 : lw_okq (⟨"CordDoorsModel", "record", "()V"⟩, 17) := ⟨⟨by decide +kernel, by decide +kernel⟩, List.mem_of_getElem? (i := 704) (by decide +kernel), List.mem_of_getElem? (i := 789) (by decide +kernel), List.mem_of_getElem? (i := 790) (by decide +kernel)⟩
theorem lw_p23 : lw_okq (⟨"CordDoorsModel", "openNow", "(I)I"⟩, 17) := ⟨⟨by decide +kernel, by decide +kernel⟩, List.mem_of_getElem? (i := 704) (by decide +kernel), List.mem_of_getElem? (i := 803) (by decide +kernel), List.mem_of_getElem? (i := 804) (by decide +kernel)⟩
theorem lw_p24 : lw_okq (⟨"CordDoorsModel", "reason", "(I)I"⟩, 17) := ⟨⟨by decide +kernel, by decide +kernel⟩, List.mem_of_getElem? (i := 704) (by decide +kernel), List.mem_of_getElem? (i := 807) (by decide +kernel), List.mem_of_getElem? (i := 808) (by decide +kernel)⟩
theorem lw_p25 : lw_okq (⟨"CordDoorsModel", "isOpen", "(I)Z"⟩, 17) := ⟨⟨by decide +kernel, by decide +kernel⟩, List.mem_of_getElem? (i := 704) (by decide +kernel), List.mem_of_getElem? (i := 811) (by decide +kernel), List.mem_of_getElem? (i := 812) (by decide +kernel)⟩
theorem lw_p26 : lw_okq (⟨"CordDoorsModel", "cordsTo", "(IZ)I"⟩, 17) := ⟨⟨by decide +kernel, by decide +kernel⟩, List.mem_of_getElem? (i := 704) (by decide +kernel), List.mem_of_getElem? (i := 815) (by decide +kernel), List.mem_of_getElem? (i := 816) (by decide +kernel)⟩
theorem lw_p27 : lw_okq (⟨"CordDoorsModel", "goesTo", "(II)Z"⟩, 17) := ⟨⟨by decide +kernel, by decide +kernel⟩, List.mem_of_getElem? (i := 704) (by decide +kernel), List.mem_of_getElem? (i := 819) (by decide +kernel), List.mem_of_getElem? (i := 820) (by decide +kernel)⟩
theorem lw_p28 : lw_okq (⟨"CordDoorsModel", "refuse", "(I)I"⟩, 17) := ⟨⟨by decide +kernel, by decide +kernel⟩, List.mem_of_getElem? (i := 704) (by decide +kernel), List.mem_of_getElem? (i := 823) (by decide +kernel), List.mem_of_getElem? (i := 824) (by decide +kernel)⟩
theorem lw_p29 : lw_okq (⟨"CordDoorsModel", "opens", "(I)I"⟩, 17) := ⟨⟨by decide +kernel, by decide +kernel⟩, List.mem_of_getElem? (i := 704) (by decide +kernel), List.mem_of_getElem? (i := 827) (by decide +kernel), List.mem_of_getElem? (i := 828) (by decide +kernel)⟩
theorem lw_p30 : lw_okq (⟨"CordDoorsModel", "shuts", "(II)V"⟩, 17) := ⟨⟨by decide +kernel, by decide +kernel⟩, List.mem_of_getElem? (i := 704) (by decide +kernel), List.mem_of_getElem? (i := 831) (by decide +kernel), List.mem_of_getElem? (i := 832) (by decide +kernel)⟩
theorem lw_p31 : lw_okq (⟨"CordDoorsModel", "openIn", "(I)I"⟩, 17) := ⟨⟨by decide +kernel, by decide +kernel⟩, List.mem_of_getElem? (i := 704) (by decide +kernel), List.mem_of_getElem? (i := 835) (by decide +kernel), List.mem_of_getElem? (i := 836) (by decide +kernel)⟩
def lw_privs_2 : List (MethodName × Nat) := [(⟨"CordDoors$Ways", "begin", "(I)V"⟩, 3), (⟨"CordDoors$Ways", "lessenAll", "(LCordDoors$Loom;II)I"⟩, 3), (⟨"CordDoors$Ways", "lessen", "(II)I"⟩, 3), (⟨"CordDoorsModel", "lay", "(III)V"⟩, 17), (⟨"CordDoorsModel", "openSet", "()I"⟩, 17), (⟨"CordDoorsModel", "of", "(II)I"⟩, 17), (⟨"CordDoorsModel", "record", "()V"⟩, 17), (⟨"CordDoorsModel", "openNow", "(I)I"⟩, 17), (⟨"CordDoorsModel", "reason", "(I)I"⟩, 17), (⟨"CordDoorsModel", "isOpen", "(I)Z"⟩, 17), (⟨"CordDoorsModel", "cordsTo", "(IZ)I"⟩, 17), (⟨"CordDoorsModel", "goesTo", "(II)Z"⟩, 17), (⟨"CordDoorsModel", "refuse", "(I)I"⟩, 17), (⟨"CordDoorsModel", "opens", "(I)I"⟩, 17), (⟨"CordDoorsModel", "shuts", "(II)V"⟩, 17), (⟨"CordDoorsModel", "openIn", "(I)I"⟩, 17)]
theorem lw_r2 : ∀ q ∈ lw_privs_2, lw_okq q := List.forall_mem_cons.mpr ⟨lw_p16, List.forall_mem_cons.mpr ⟨lw_p17, List.forall_mem_cons.mpr ⟨lw_p18, List.forall_mem_cons.mpr ⟨lw_p19, List.forall_mem_cons.mpr ⟨lw_p20, List.forall_mem_cons.mpr ⟨lw_p21, List.forall_mem_cons.mpr ⟨lw_p22, List.forall_mem_cons.mpr ⟨lw_p23, List.forall_mem_cons.mpr ⟨lw_p24, List.forall_mem_cons.mpr ⟨lw_p25, List.forall_mem_cons.mpr ⟨lw_p26, List.forall_mem_cons.mpr ⟨lw_p27, List.forall_mem_cons.mpr ⟨lw_p28, List.forall_mem_cons.mpr ⟨lw_p29, List.forall_mem_cons.mpr ⟨lw_p30, List.forall_mem_cons.mpr ⟨lw_p31, fun _ h => absurd h List.not_mem_nil⟩⟩⟩⟩⟩⟩⟩⟩⟩⟩⟩⟩⟩⟩⟩⟩
theorem lw_p32 : lw_okq (⟨"CordDoorsModel", "joins", "(II)Z"⟩, 17) := ⟨⟨by decide +kernel, by decide +kernel⟩, List.mem_of_getElem? (i := 704) (by decide +kernel), List.mem_of_getElem? (i := 839) (by decide +kernel), List.mem_of_getElem? (i := 840) (by decide +kernel)⟩
theorem lw_p33 : lw_okq (⟨"CordDoorsModel", "lowestIn", "(II)I"⟩, 17) := ⟨⟨by decide +kernel, by decide +kernel⟩, List.mem_of_getElem? (i := 704) (by decide +kernel), List.mem_of_getElem? (i := 843) (by decide +kernel), List.mem_of_getElem? (i := 844) (by decide +kernel)⟩
theorem lw_p34 : lw_okq (⟨"CordDoorsModel", "shutNow", "(I)I"⟩, 17) := ⟨⟨by decide +kernel, by decide +kernel⟩, List.mem_of_getElem? (i := 704) (by decide +kernel), List.mem_of_getElem? (i := 851) (by decide +kernel), List.mem_of_getElem? (i := 852) (by decide +kernel)⟩
theorem lw_p35 : lw_okq (⟨"CordDoorsModel", "guestOpensNow", "(II)I"⟩, 17) := ⟨⟨by decide +kernel, by decide +kernel⟩, List.mem_of_getElem? (i := 704) (by decide +kernel), List.mem_of_getElem? (i := 862) (by decide +kernel), List.mem_of_getElem? (i := 863) (by decide +kernel)⟩
theorem lw_p36 : lw_okq (⟨"CordDoorsModel", "isAt", "(II)Z"⟩, 17) := ⟨⟨by decide +kernel, by decide +kernel⟩, List.mem_of_getElem? (i := 704) (by decide +kernel), List.mem_of_getElem? (i := 866) (by decide +kernel), List.mem_of_getElem? (i := 867) (by decide +kernel)⟩
theorem lw_p37 : lw_okq (⟨"CordDoorsModel", "ofGuest", "(II)I"⟩, 17) := ⟨⟨by decide +kernel, by decide +kernel⟩, List.mem_of_getElem? (i := 704) (by decide +kernel), List.mem_of_getElem? (i := 870) (by decide +kernel), List.mem_of_getElem? (i := 871) (by decide +kernel)⟩
theorem lw_p38 : lw_okq (⟨"CordDoorsModel", "hasKey", "(II)Z"⟩, 17) := ⟨⟨by decide +kernel, by decide +kernel⟩, List.mem_of_getElem? (i := 704) (by decide +kernel), List.mem_of_getElem? (i := 874) (by decide +kernel), List.mem_of_getElem? (i := 875) (by decide +kernel)⟩
theorem lw_p39 : lw_okq (⟨"CordDoorsModel", "guestShutsNow", "(II)I"⟩, 17) := ⟨⟨by decide +kernel, by decide +kernel⟩, List.mem_of_getElem? (i := 704) (by decide +kernel), List.mem_of_getElem? (i := 882) (by decide +kernel), List.mem_of_getElem? (i := 883) (by decide +kernel)⟩
theorem lw_p40 : lw_okq (⟨"CordDoorsModel", "walkNow", "(II)I"⟩, 17) := ⟨⟨by decide +kernel, by decide +kernel⟩, List.mem_of_getElem? (i := 704) (by decide +kernel), List.mem_of_getElem? (i := 890) (by decide +kernel), List.mem_of_getElem? (i := 891) (by decide +kernel)⟩
theorem lw_p41 : lw_okq (⟨"CordDoorsModel", "across", "(II)I"⟩, 17) := ⟨⟨by decide +kernel, by decide +kernel⟩, List.mem_of_getElem? (i := 704) (by decide +kernel), List.mem_of_getElem? (i := 894) (by decide +kernel), List.mem_of_getElem? (i := 895) (by decide +kernel)⟩
theorem lw_p42 : lw_okq (⟨"CordDoorsModel", "lesserHall", "(I)I"⟩, 17) := ⟨⟨by decide +kernel, by decide +kernel⟩, List.mem_of_getElem? (i := 704) (by decide +kernel), List.mem_of_getElem? (i := 909) (by decide +kernel), List.mem_of_getElem? (i := 910) (by decide +kernel)⟩
theorem lw_p43 : lw_okq (⟨"CordDoorsModel", "greaterHall", "(I)I"⟩, 17) := ⟨⟨by decide +kernel, by decide +kernel⟩, List.mem_of_getElem? (i := 704) (by decide +kernel), List.mem_of_getElem? (i := 913) (by decide +kernel), List.mem_of_getElem? (i := 914) (by decide +kernel)⟩
theorem lw_p44 : lw_okq (⟨"CordDoorsModel", "readPad", "()Z"⟩, 17) := ⟨⟨by decide +kernel, by decide +kernel⟩, List.mem_of_getElem? (i := 704) (by decide +kernel), List.mem_of_getElem? (i := 937) (by decide +kernel), List.mem_of_getElem? (i := 938) (by decide +kernel)⟩
theorem lw_p45 : lw_okq (⟨"CordDoorsModel", "readDeed", "()Z"⟩, 17) := ⟨⟨by decide +kernel, by decide +kernel⟩, List.mem_of_getElem? (i := 704) (by decide +kernel), List.mem_of_getElem? (i := 941) (by decide +kernel), List.mem_of_getElem? (i := 942) (by decide +kernel)⟩
theorem lw_p46 : lw_okq (⟨"CordDoorsModel", "takes", "(I)Z"⟩, 17) := ⟨⟨by decide +kernel, by decide +kernel⟩, List.mem_of_getElem? (i := 704) (by decide +kernel), List.mem_of_getElem? (i := 945) (by decide +kernel), List.mem_of_getElem? (i := 946) (by decide +kernel)⟩
theorem lw_p47 : lw_okq (⟨"CordDoorsModel", "sees", "(II)Z"⟩, 17) := ⟨⟨by decide +kernel, by decide +kernel⟩, List.mem_of_getElem? (i := 704) (by decide +kernel), List.mem_of_getElem? (i := 949) (by decide +kernel), List.mem_of_getElem? (i := 950) (by decide +kernel)⟩
def lw_privs_3 : List (MethodName × Nat) := [(⟨"CordDoorsModel", "joins", "(II)Z"⟩, 17), (⟨"CordDoorsModel", "lowestIn", "(II)I"⟩, 17), (⟨"CordDoorsModel", "shutNow", "(I)I"⟩, 17), (⟨"CordDoorsModel", "guestOpensNow", "(II)I"⟩, 17), (⟨"CordDoorsModel", "isAt", "(II)Z"⟩, 17), (⟨"CordDoorsModel", "ofGuest", "(II)I"⟩, 17), (⟨"CordDoorsModel", "hasKey", "(II)Z"⟩, 17), (⟨"CordDoorsModel", "guestShutsNow", "(II)I"⟩, 17), (⟨"CordDoorsModel", "walkNow", "(II)I"⟩, 17), (⟨"CordDoorsModel", "across", "(II)I"⟩, 17), (⟨"CordDoorsModel", "lesserHall", "(I)I"⟩, 17), (⟨"CordDoorsModel", "greaterHall", "(I)I"⟩, 17), (⟨"CordDoorsModel", "readPad", "()Z"⟩, 17), (⟨"CordDoorsModel", "readDeed", "()Z"⟩, 17), (⟨"CordDoorsModel", "takes", "(I)Z"⟩, 17), (⟨"CordDoorsModel", "sees", "(II)Z"⟩, 17)]
theorem lw_r3 : ∀ q ∈ lw_privs_3, lw_okq q := List.forall_mem_cons.mpr ⟨lw_p32, List.forall_mem_cons.mpr ⟨lw_p33, List.forall_mem_cons.mpr ⟨lw_p34, List.forall_mem_cons.mpr ⟨lw_p35, List.forall_mem_cons.mpr ⟨lw_p36, List.forall_mem_cons.mpr ⟨lw_p37, List.forall_mem_cons.mpr ⟨lw_p38, List.forall_mem_cons.mpr ⟨lw_p39, List.forall_mem_cons.mpr ⟨lw_p40, List.forall_mem_cons.mpr ⟨lw_p41, List.forall_mem_cons.mpr ⟨lw_p42, List.forall_mem_cons.mpr ⟨lw_p43, List.forall_mem_cons.mpr ⟨lw_p44, List.forall_mem_cons.mpr ⟨lw_p45, List.forall_mem_cons.mpr ⟨lw_p46, List.forall_mem_cons.mpr ⟨lw_p47, fun _ h => absurd h List.not_mem_nil⟩⟩⟩⟩⟩⟩⟩⟩⟩⟩⟩⟩⟩⟩⟩⟩
theorem lw_p48 : lw_okq (⟨"CordDoorsModel", "takesOne", "(II)I"⟩, 17) := ⟨⟨by decide +kernel, by decide +kernel⟩, List.mem_of_getElem? (i := 704) (by decide +kernel), List.mem_of_getElem? (i := 953) (by decide +kernel), List.mem_of_getElem? (i := 954) (by decide +kernel)⟩
theorem lw_p49 : lw_okq (⟨"CordDoorsModel", "doDeed", "(I)I"⟩, 17) := ⟨⟨by decide +kernel, by decide +kernel⟩, List.mem_of_getElem? (i := 704) (by decide +kernel), List.mem_of_getElem? (i := 961) (by decide +kernel), List.mem_of_getElem? (i := 962) (by decide +kernel)⟩
theorem lw_p50 : lw_okq (⟨"CordDoorsModel", "doorsOf", "(I)I"⟩, 17) := ⟨⟨by decide +kernel, by decide +kernel⟩, List.mem_of_getElem? (i := 704) (by decide +kernel), List.mem_of_getElem? (i := 977) (by decide +kernel), List.mem_of_getElem? (i := 978) (by decide +kernel)⟩
theorem lw_p51 : lw_okq (⟨"CordDoorsModel", "guestsIn", "(I)I"⟩, 17) := ⟨⟨by decide +kernel, by decide +kernel⟩, List.mem_of_getElem? (i := 704) (by decide +kernel), List.mem_of_getElem? (i := 981) (by decide +kernel), List.mem_of_getElem? (i := 982) (by decide +kernel)⟩
theorem lw_p52 : lw_okq (⟨"CordDoorsModel", "hangs", "(I)I"⟩, 17) := ⟨⟨by decide +kernel, by decide +kernel⟩, List.mem_of_getElem? (i := 704) (by decide +kernel), List.mem_of_getElem? (i := 985) (by decide +kernel), List.mem_of_getElem? (i := 986) (by decide +kernel)⟩
theorem lw_p53 : lw_okq (⟨"CordDoorsModel", "canOpen", "(I)I"⟩, 17) := ⟨⟨by decide +kernel, by decide +kernel⟩, List.mem_of_getElem? (i := 704) (by decide +kernel), List.mem_of_getElem? (i := 996) (by decide +kernel), List.mem_of_getElem? (i := 997) (by decide +kernel)⟩
theorem lw_p54 : lw_okq (⟨"CordDoorsModel", "canBe", "(I)Z"⟩, 17) := ⟨⟨by decide +kernel, by decide +kernel⟩, List.mem_of_getElem? (i := 704) (by decide +kernel), List.mem_of_getElem? (i := 1008) (by decide +kernel), List.mem_of_getElem? (i := 1009) (by decide +kernel)⟩
theorem lw_p55 : lw_okq (⟨"CordDoorsModel", "reach", "(II)V"⟩, 17) := ⟨⟨by decide +kernel, by decide +kernel⟩, List.mem_of_getElem? (i := 704) (by decide +kernel), List.mem_of_getElem? (i := 1020) (by decide +kernel), List.mem_of_getElem? (i := 1021) (by decide +kernel)⟩
theorem lw_p56 : lw_okq (⟨"CordDoorsModel", "goOn", "(II)V"⟩, 17) := ⟨⟨by decide +kernel, by decide +kernel⟩, List.mem_of_getElem? (i := 704) (by decide +kernel), List.mem_of_getElem? (i := 1024) (by decide +kernel), List.mem_of_getElem? (i := 1025) (by decide +kernel)⟩
theorem lw_p57 : lw_okq (⟨"CordDoorsModel", "laySet", "(I)V"⟩, 17) := ⟨⟨by decide +kernel, by decide +kernel⟩, List.mem_of_getElem? (i := 704) (by decide +kernel), List.mem_of_getElem? (i := 1028) (by decide +kernel), List.mem_of_getElem? (i := 1029) (by decide +kernel)⟩
theorem lw_p58 : lw_okq (⟨"CordDoorsModel", "cords", "(Z)I"⟩, 17) := ⟨⟨by decide +kernel, by decide +kernel⟩, List.mem_of_getElem? (i := 704) (by decide +kernel), List.mem_of_getElem? (i := 1036) (by decide +kernel), List.mem_of_getElem? (i := 1037) (by decide +kernel)⟩
theorem lw_p59 : lw_okq (⟨"CordDoorsModel", "held", "()I"⟩, 17) := ⟨⟨by decide +kernel, by decide +kernel⟩, List.mem_of_getElem? (i := 704) (by decide +kernel), List.mem_of_getElem? (i := 1040) (by decide +kernel), List.mem_of_getElem? (i := 1041) (by decide +kernel)⟩
theorem lw_p60 : lw_okq (⟨"CordDoorsModel", "pairsOfHalls", "()I"⟩, 17) := ⟨⟨by decide +kernel, by decide +kernel⟩, List.mem_of_getElem? (i := 704) (by decide +kernel), List.mem_of_getElem? (i := 1044) (by decide +kernel), List.mem_of_getElem? (i := 1045) (by decide +kernel)⟩
theorem lw_p61 : lw_okq (⟨"CordDoorsModel", "pairsOfDoors", "()I"⟩, 17) := ⟨⟨by decide +kernel, by decide +kernel⟩, List.mem_of_getElem? (i := 704) (by decide +kernel), List.mem_of_getElem? (i := 1048) (by decide +kernel), List.mem_of_getElem? (i := 1049) (by decide +kernel)⟩
def lw_privs_4 : List (MethodName × Nat) := [(⟨"CordDoorsModel", "takesOne", "(II)I"⟩, 17), (⟨"CordDoorsModel", "doDeed", "(I)I"⟩, 17), (⟨"CordDoorsModel", "doorsOf", "(I)I"⟩, 17), (⟨"CordDoorsModel", "guestsIn", "(I)I"⟩, 17), (⟨"CordDoorsModel", "hangs", "(I)I"⟩, 17), (⟨"CordDoorsModel", "canOpen", "(I)I"⟩, 17), (⟨"CordDoorsModel", "canBe", "(I)Z"⟩, 17), (⟨"CordDoorsModel", "reach", "(II)V"⟩, 17), (⟨"CordDoorsModel", "goOn", "(II)V"⟩, 17), (⟨"CordDoorsModel", "laySet", "(I)V"⟩, 17), (⟨"CordDoorsModel", "cords", "(Z)I"⟩, 17), (⟨"CordDoorsModel", "held", "()I"⟩, 17), (⟨"CordDoorsModel", "pairsOfHalls", "()I"⟩, 17), (⟨"CordDoorsModel", "pairsOfDoors", "()I"⟩, 17)]
theorem lw_r4 : ∀ q ∈ lw_privs_4, lw_okq q := List.forall_mem_cons.mpr ⟨lw_p48, List.forall_mem_cons.mpr ⟨lw_p49, List.forall_mem_cons.mpr ⟨lw_p50, List.forall_mem_cons.mpr ⟨lw_p51, List.forall_mem_cons.mpr ⟨lw_p52, List.forall_mem_cons.mpr ⟨lw_p53, List.forall_mem_cons.mpr ⟨lw_p54, List.forall_mem_cons.mpr ⟨lw_p55, List.forall_mem_cons.mpr ⟨lw_p56, List.forall_mem_cons.mpr ⟨lw_p57, List.forall_mem_cons.mpr ⟨lw_p58, List.forall_mem_cons.mpr ⟨lw_p59, List.forall_mem_cons.mpr ⟨lw_p60, List.forall_mem_cons.mpr ⟨lw_p61, fun _ h => absurd h List.not_mem_nil⟩⟩⟩⟩⟩⟩⟩⟩⟩⟩⟩⟩⟩⟩
def lw_privs : List (MethodName × Nat) := lw_privs_1 ++ (lw_privs_2 ++ (lw_privs_3 ++ (lw_privs_4)))
def lw_tbl : List Cond := k2_sels lw_privs ++ tables_1
theorem lw_privs_ok : ∀ q ∈ lw_privs, lw_okq q := by
  show ∀ q ∈ lw_privs_1 ++ (lw_privs_2 ++ (lw_privs_3 ++ (lw_privs_4))), lw_okq q
  exact List.forall_mem_append.mpr ⟨lw_r1, List.forall_mem_append.mpr ⟨lw_r2, List.forall_mem_append.mpr ⟨lw_r3, lw_r4⟩⟩⟩
/-- the streams that the claim lets the run draw from -/
abbrev lw_cs : List Choice := [Jvm.Choice.named "NaN.bits"]
theorem lw_bits : nanBits ∈ lw_cs := by first | decide | exact List.mem_cons_self | simp [lw_cs, nanBits]
/-! ===== BEGIN printed: names, fields, word lists, decode rows ===== -/
def RX0 : String := "CordDoors$Accounts"
def TX0 : u_T := fun k => match k with
  | 0 => ("CordDoors$Accounts", "openings", "[I", true)
  | 1 => ("CordDoors$Accounts", "shuttings", "[I", true)
  | 2 => ("CordDoors$Accounts", "opened", "I", false)
  | 3 => ("CordDoors$Accounts", "shutByHand", "I", false)
  | 4 => ("CordDoors$Accounts", "shutByCords", "I", false)
  | 5 => ("CordDoors$Accounts", "shutByDrafts", "I", false)
  | _ => ("CordDoors$Accounts", "refused", "I", false)
def tyX0 : Nat → FieldType := fun k => match k with
  | 0 => .array .int
  | 1 => .array .int
  | 2 => .int
  | 3 => .int
  | 4 => .int
  | 5 => .int
  | _ => .int
abbrev wsX00 : List Cond := u_ws RX0 TX0 7
theorem nmX0 : ∀ a, a < 7 → ∀ b, b < 7 → a ≠ b → (TX0 a).2.1 ≠ (TX0 b).2.1 := by decide +kernel
theorem tyX0_ok : ∀ k, k < 7 → parseFieldDescriptor (TX0 k).2.2.1 = some (tyX0 k) := by decide +kernel
abbrev cX0_init : ByteArray := prog_2_method_1_code
def yX0_init : MethodName := ⟨RX0, "<init>", "()V"⟩
abbrev cX0_copy : ByteArray := prog_2_method_2_code
def yX0_copy : MethodName := ⟨RX0, "copy", "(LCordDoors$Accounts;)V"⟩
abbrev cX0_noteOpened : ByteArray := prog_2_method_3_code
def yX0_noteOpened : MethodName := ⟨RX0, "noteOpened", "(I)V"⟩
abbrev cX0_noteShutByHand : ByteArray := prog_2_method_4_code
def yX0_noteShutByHand : MethodName := ⟨RX0, "noteShutByHand", "(I)V"⟩
abbrev cX0_noteShutByOpening : ByteArray := prog_2_method_5_code
def yX0_noteShutByOpening : MethodName := ⟨RX0, "noteShutByOpening", "(II)V"⟩
abbrev cX0_noteRefused : ByteArray := prog_2_method_6_code
def yX0_noteRefused : MethodName := ⟨RX0, "noteRefused", "(I)I"⟩
def RX1 : String := "CordDoors$Guests"
def TX1 : u_T := fun k => match k with
  | 0 => ("CordDoors$Guests", "halls", "[I", true)
  | 1 => ("CordDoors$Guests", "keySets", "[I", true)
  | _ => ("CordDoors$Guests", "walks", "[I", true)
def tyX1 : Nat → FieldType := fun k => match k with
  | 0 => .array .int
  | 1 => .array .int
  | _ => .array .int
abbrev wsX10 : List Cond := u_ws RX1 TX1 3
theorem nmX1 : ∀ a, a < 3 → ∀ b, b < 3 → a ≠ b → (TX1 a).2.1 ≠ (TX1 b).2.1 := by decide +kernel
theorem tyX1_ok : ∀ k, k < 3 → parseFieldDescriptor (TX1 k).2.2.1 = some (tyX1 k) := by decide +kernel
abbrev cX1_init : ByteArray := prog_3_method_1_code
def yX1_init : MethodName := ⟨RX1, "<init>", "()V"⟩
abbrev cX1_copy : ByteArray := prog_3_method_2_code
def yX1_copy : MethodName := ⟨RX1, "copy", "(LCordDoors$Guests;)V"⟩
abbrev cX1_howManyIn : ByteArray := prog_3_method_3_code
def yX1_howManyIn : MethodName := ⟨RX1, "howManyIn", "(I)I"⟩
def RX2 : String := "CordDoors$History"
def TX2 : u_T := fun k => match k with
  | 0 => ("CordDoors$History", "states", "[LCordDoors$State;", true)
  | 1 => ("CordDoors$History", "oldest", "I", false)
  | _ => ("CordDoors$History", "size", "I", false)
def tyX2 : Nat → FieldType := fun k => match k with
  | 0 => .array (.object "CordDoors$State")
  | 1 => .int
  | _ => .int
abbrev wsX20 : List Cond := u_ws RX2 TX2 3
theorem nmX2 : ∀ a, a < 3 → ∀ b, b < 3 → a ≠ b → (TX2 a).2.1 ≠ (TX2 b).2.1 := by decide +kernel
theorem tyX2_ok : ∀ k, k < 3 → parseFieldDescriptor (TX2 k).2.2.1 = some (tyX2 k) := by decide +kernel
abbrev cX2_init : ByteArray := prog_4_method_1_code
def yX2_init : MethodName := ⟨RX2, "<init>", "()V"⟩
abbrev cX2_record : ByteArray := prog_4_method_2_code
def yX2_record : MethodName := ⟨RX2, "record", "(LCordDoors$State;)V"⟩
abbrev cX2_takeBack : ByteArray := prog_4_method_3_code
def yX2_takeBack : MethodName := ⟨RX2, "takeBack", "(LCordDoors$State;)V"⟩
abbrev cX2_slotBehind : ByteArray := prog_4_method_4_code
def yX2_slotBehind : MethodName := ⟨RX2, "slotBehind", "(I)LCordDoors$State;"⟩
def RX3 : String := "CordDoors$Loom"
def TX3 : u_T := fun k => match k with
  | 0 => ("CordDoors$Loom", "firstCords", "[I", true)
  | 1 => ("CordDoors$Loom", "secondCords", "[I", true)
  | 2 => ("CordDoors$Loom", "lesserHalls", "[I", true)
  | 3 => ("CordDoors$Loom", "greaterHalls", "[I", true)
  | 4 => ("CordDoors$Loom", "doorsOfHalls", "[I", true)
  | _ => ("CordDoors$Loom", "draftSetting", "I", false)
def tyX3 : Nat → FieldType := fun k => match k with
  | 0 => .array .int
  | 1 => .array .int
  | 2 => .array .int
  | 3 => .array .int
  | 4 => .array .int
  | _ => .int
abbrev wsX30 : List Cond := u_ws RX3 TX3 6
theorem nmX3 : ∀ a, a < 6 → ∀ b, b < 6 → a ≠ b → (TX3 a).2.1 ≠ (TX3 b).2.1 := by decide +kernel
theorem tyX3_ok : ∀ k, k < 6 → parseFieldDescriptor (TX3 k).2.2.1 = some (tyX3 k) := by decide +kernel
abbrev cX3_init : ByteArray := prog_5_method_1_code
def yX3_init : MethodName := ⟨RX3, "<init>", "()V"⟩
abbrev cX3_copy : ByteArray := prog_5_method_2_code
def yX3_copy : MethodName := ⟨RX3, "copy", "(LCordDoors$Loom;)V"⟩
abbrev cX3_hang : ByteArray := prog_5_method_3_code
def yX3_hang : MethodName := ⟨RX3, "hang", "(III)V"⟩
abbrev cX3_lesserHall : ByteArray := prog_5_method_4_code
def yX3_lesserHall : MethodName := ⟨RX3, "lesserHall", "(I)I"⟩
abbrev cX3_greaterHall : ByteArray := prog_5_method_5_code
def yX3_greaterHall : MethodName := ⟨RX3, "greaterHall", "(I)I"⟩
abbrev cX3_joins : ByteArray := prog_5_method_6_code
def yX3_joins : MethodName := ⟨RX3, "joins", "(II)Z"⟩
abbrev cX3_otherHall : ByteArray := prog_5_method_7_code
def yX3_otherHall : MethodName := ⟨RX3, "otherHall", "(II)I"⟩
abbrev cX3_doorsOf : ByteArray := prog_5_method_8_code
def yX3_doorsOf : MethodName := ⟨RX3, "doorsOf", "(I)I"⟩
abbrev cX3_cordOf : ByteArray := prog_5_method_9_code
def yX3_cordOf : MethodName := ⟨RX3, "cordOf", "(IZ)I"⟩
abbrev cX3_layCord : ByteArray := prog_5_method_10_code
def yX3_layCord : MethodName := ⟨RX3, "layCord", "(IZI)V"⟩
abbrev cX3_targetsOf : ByteArray := prog_5_method_11_code
def yX3_targetsOf : MethodName := ⟨RX3, "targetsOf", "(I)I"⟩
abbrev cX3_heldBy : ByteArray := prog_5_method_12_code
def yX3_heldBy : MethodName := ⟨RX3, "heldBy", "(I)I"⟩
abbrev cX3_cordsOf : ByteArray := prog_5_method_13_code
def yX3_cordsOf : MethodName := ⟨RX3, "cordsOf", "(I)I"⟩
abbrev cX3_cordsTo : ByteArray := prog_5_method_14_code
def yX3_cordsTo : MethodName := ⟨RX3, "cordsTo", "(II)I"⟩
abbrev cX3_pairsOfDoors : ByteArray := prog_5_method_15_code
def yX3_pairsOfDoors : MethodName := ⟨RX3, "pairsOfDoors", "()I"⟩
abbrev cX3_canBeOpen : ByteArray := prog_5_method_16_code
def yX3_canBeOpen : MethodName := ⟨RX3, "canBeOpen", "(I)Z"⟩
abbrev cX3_hasTooMany : ByteArray := prog_5_method_17_code
def yX3_hasTooMany : MethodName := ⟨RX3, "hasTooMany", "(II)Z"⟩
abbrev cX3_afterOpening : ByteArray := prog_5_method_18_code
def yX3_afterOpening : MethodName := ⟨RX3, "afterOpening", "(II)I"⟩
abbrev cX3_afterCords : ByteArray := prog_5_method_19_code
def yX3_afterCords : MethodName := ⟨RX3, "afterCords", "(II)I"⟩
abbrev cX3_afterDrafts : ByteArray := prog_5_method_20_code
def yX3_afterDrafts : MethodName := ⟨RX3, "afterDrafts", "(II)I"⟩
abbrev cX3_hallsFrom : ByteArray := prog_5_method_21_code
def yX3_hallsFrom : MethodName := ⟨RX3, "hallsFrom", "(II)I"⟩
abbrev cX3_pairsOfHalls : ByteArray := prog_5_method_22_code
def yX3_pairsOfHalls : MethodName := ⟨RX3, "pairsOfHalls", "(I)I"⟩
def RX4 : String := "CordDoors$Pad"
def TX4 : u_T := fun k => match k with
  | 0 => ("CordDoors$Pad", "codes", "[I", true)
  | _ => ("CordDoors$Pad", "length", "I", false)
def tyX4 : Nat → FieldType := fun k => match k with
  | 0 => .array .int
  | _ => .int
abbrev wsX40 : List Cond := u_ws RX4 TX4 2
theorem nmX4 : ∀ a, a < 2 → ∀ b, b < 2 → a ≠ b → (TX4 a).2.1 ≠ (TX4 b).2.1 := by decide +kernel
theorem tyX4_ok : ∀ k, k < 2 → parseFieldDescriptor (TX4 k).2.2.1 = some (tyX4 k) := by decide +kernel
abbrev cX4_init : ByteArray := prog_6_method_1_code
def yX4_init : MethodName := ⟨RX4, "<init>", "()V"⟩
abbrev cX4_add : ByteArray := prog_6_method_2_code
def yX4_add : MethodName := ⟨RX4, "add", "(I)I"⟩
abbrev cX4_empty : ByteArray := prog_6_method_3_code
def yX4_empty : MethodName := ⟨RX4, "empty", "()I"⟩
abbrev cX4_faultPlace : ByteArray := prog_6_method_4_code
def yX4_faultPlace : MethodName := ⟨RX4, "faultPlace", "()I"⟩
abbrev cX4_expectedAfter : ByteArray := prog_6_method_5_code
def yX4_expectedAfter : MethodName := ⟨RX4, "expectedAfter", "(II)I"⟩
abbrev cX4_codeAt : ByteArray := prog_6_method_6_code
def yX4_codeAt : MethodName := ⟨RX4, "codeAt", "(I)I"⟩
abbrev cX4_isGuestsDeed : ByteArray := prog_6_method_7_code
def yX4_isGuestsDeed : MethodName := ⟨RX4, "isGuestsDeed", "(I)Z"⟩
abbrev cX4_guestOfDeed : ByteArray := prog_6_method_8_code
def yX4_guestOfDeed : MethodName := ⟨RX4, "guestOfDeed", "(I)I"⟩
abbrev cX4_letterOfDeed : ByteArray := prog_6_method_9_code
def yX4_letterOfDeed : MethodName := ⟨RX4, "letterOfDeed", "(I)I"⟩
abbrev cX4_doorOfDeed : ByteArray := prog_6_method_10_code
def yX4_doorOfDeed : MethodName := ⟨RX4, "doorOfDeed", "(I)I"⟩
abbrev cX4_placeOfNextDeed : ByteArray := prog_6_method_11_code
def yX4_placeOfNextDeed : MethodName := ⟨RX4, "placeOfNextDeed", "(I)I"⟩
abbrev cX4_placeOfLetter : ByteArray := prog_6_method_12_code
def yX4_placeOfLetter : MethodName := ⟨RX4, "placeOfLetter", "(I)I"⟩
def RX5 : String := "CordDoors$State"
def TX5 : u_T := fun k => match k with
  | 0 => ("CordDoors$State", "loom", "LCordDoors$Loom;", true)
  | 1 => ("CordDoors$State", "guests", "LCordDoors$Guests;", true)
  | 2 => ("CordDoors$State", "accounts", "LCordDoors$Accounts;", true)
  | _ => ("CordDoors$State", "openDoors", "I", false)
def tyX5 : Nat → FieldType := fun k => match k with
  | 0 => .object "CordDoors$Loom"
  | 1 => .object "CordDoors$Guests"
  | 2 => .object "CordDoors$Accounts"
  | _ => .int
abbrev wsX50 : List Cond := u_ws RX5 TX5 4
theorem nmX5 : ∀ a, a < 4 → ∀ b, b < 4 → a ≠ b → (TX5 a).2.1 ≠ (TX5 b).2.1 := by decide +kernel
theorem tyX5_ok : ∀ k, k < 4 → parseFieldDescriptor (TX5 k).2.2.1 = some (tyX5 k) := by decide +kernel
abbrev cX5_init : ByteArray := prog_7_method_1_code
def yX5_init : MethodName := ⟨RX5, "<init>", "()V"⟩
abbrev cX5_copy : ByteArray := prog_7_method_2_code
def yX5_copy : MethodName := ⟨RX5, "copy", "(LCordDoors$State;)V"⟩
abbrev cX5_isOpen : ByteArray := prog_7_method_3_code
def yX5_isOpen : MethodName := ⟨RX5, "isOpen", "(I)Z"⟩
abbrev cX5_shutDoors : ByteArray := prog_7_method_4_code
def yX5_shutDoors : MethodName := ⟨RX5, "shutDoors", "()I"⟩
abbrev cX5_reasonNotToOpen : ByteArray := prog_7_method_5_code
def yX5_reasonNotToOpen : MethodName := ⟨RX5, "reasonNotToOpen", "(I)I"⟩
abbrev cX5_reasonNotToShut : ByteArray := prog_7_method_6_code
def yX5_reasonNotToShut : MethodName := ⟨RX5, "reasonNotToShut", "(I)I"⟩
abbrev cX5_isAtDoor : ByteArray := prog_7_method_7_code
def yX5_isAtDoor : MethodName := ⟨RX5, "isAtDoor", "(II)Z"⟩
abbrev cX5_reasonNotToOpenAsGuest : ByteArray := prog_7_method_8_code
def yX5_reasonNotToOpenAsGuest : MethodName := ⟨RX5, "reasonNotToOpenAsGuest", "(II)I"⟩
abbrev cX5_reasonNotToUse : ByteArray := prog_7_method_9_code
def yX5_reasonNotToUse : MethodName := ⟨RX5, "reasonNotToUse", "(II)I"⟩
abbrev cX5_howManyCouldOpen : ByteArray := prog_7_method_10_code
def yX5_howManyCouldOpen : MethodName := ⟨RX5, "howManyCouldOpen", "(I)I"⟩
abbrev cX5_servantOpens : ByteArray := prog_7_method_11_code
def yX5_servantOpens : MethodName := ⟨RX5, "servantOpens", "(I)I"⟩
abbrev cX5_servantShuts : ByteArray := prog_7_method_12_code
def yX5_servantShuts : MethodName := ⟨RX5, "servantShuts", "(I)I"⟩
abbrev cX5_opensAsGuest : ByteArray := prog_7_method_13_code
def yX5_opensAsGuest : MethodName := ⟨RX5, "opensAsGuest", "(II)I"⟩
abbrev cX5_shutsAsGuest : ByteArray := prog_7_method_14_code
def yX5_shutsAsGuest : MethodName := ⟨RX5, "shutsAsGuest", "(II)I"⟩
abbrev cX5_walksThrough : ByteArray := prog_7_method_15_code
def yX5_walksThrough : MethodName := ⟨RX5, "walksThrough", "(II)I"⟩
abbrev cX5_laysCord : ByteArray := prog_7_method_16_code
def yX5_laysCord : MethodName := ⟨RX5, "laysCord", "(IZI)I"⟩
abbrev cX5_opensUnless : ByteArray := prog_7_method_17_code
def yX5_opensUnless : MethodName := ⟨RX5, "opensUnless", "(II)I"⟩
abbrev cX5_shutsUnless : ByteArray := prog_7_method_18_code
def yX5_shutsUnless : MethodName := ⟨RX5, "shutsUnless", "(II)I"⟩
def RX6 : String := "CordDoors$Stop"
def TX6 : u_T := fun k => match k with
  | 0 => ("CordDoors$Stop", "reason", "I", false)
  | 1 => ("CordDoors$Stop", "number", "I", false)
  | _ => ("CordDoors$Stop", "place", "I", false)
def tyX6 : Nat → FieldType := fun k => match k with
  | 0 => .int
  | 1 => .int
  | _ => .int
abbrev wsX60 : List Cond := u_ws RX6 TX6 3
theorem nmX6 : ∀ a, a < 3 → ∀ b, b < 3 → a ≠ b → (TX6 a).2.1 ≠ (TX6 b).2.1 := by decide +kernel
theorem tyX6_ok : ∀ k, k < 3 → parseFieldDescriptor (TX6 k).2.2.1 = some (tyX6 k) := by decide +kernel
abbrev cX6_init : ByteArray := prog_8_method_1_code
def yX6_init : MethodName := ⟨RX6, "<init>", "()V"⟩
abbrev cX6_forget : ByteArray := prog_8_method_2_code
def yX6_forget : MethodName := ⟨RX6, "forget", "()V"⟩
abbrev cX6_remember : ByteArray := prog_8_method_3_code
def yX6_remember : MethodName := ⟨RX6, "remember", "(III)V"⟩
abbrev cX6_happened : ByteArray := prog_8_method_4_code
def yX6_happened : MethodName := ⟨RX6, "happened", "()Z"⟩
def RX7 : String := "CordDoors$Ways"
def TX7 : u_T := fun k => match k with
  | 0 => ("CordDoors$Ways", "fewest", "[I", true)
  | 1 => ("CordDoors$Ways", "line", "[I", true)
  | _ => ("CordDoors$Ways", "inLine", "I", false)
def tyX7 : Nat → FieldType := fun k => match k with
  | 0 => .array .int
  | 1 => .array .int
  | _ => .int
abbrev wsX70 : List Cond := u_ws RX7 TX7 3
theorem nmX7 : ∀ a, a < 3 → ∀ b, b < 3 → a ≠ b → (TX7 a).2.1 ≠ (TX7 b).2.1 := by decide +kernel
theorem tyX7_ok : ∀ k, k < 3 → parseFieldDescriptor (TX7 k).2.2.1 = some (tyX7 k) := by decide +kernel
abbrev cX7_init : ByteArray := prog_9_method_1_code
def yX7_init : MethodName := ⟨RX7, "<init>", "()V"⟩
abbrev cX7_fromNowOn : ByteArray := prog_9_method_2_code
def yX7_fromNowOn : MethodName := ⟨RX7, "fromNowOn", "(LCordDoors$Loom;III)I"⟩
abbrev cX7_goOnFrom : ByteArray := prog_9_method_3_code
def yX7_goOnFrom : MethodName := ⟨RX7, "goOnFrom", "(LCordDoors$Loom;III)V"⟩
abbrev cX7_isSpot : ByteArray := prog_9_method_4_code
def yX7_isSpot : MethodName := ⟨RX7, "isSpot", "(I)Z"⟩
abbrev cX7_fewestOf : ByteArray := prog_9_method_5_code
def yX7_fewestOf : MethodName := ⟨RX7, "fewestOf", "(I)I"⟩
abbrev cX7_reach : ByteArray := prog_9_method_6_code
def yX7_reach : MethodName := ⟨RX7, "reach", "(II)V"⟩
abbrev cX7_fromHallBack : ByteArray := prog_9_method_7_code
def yX7_fromHallBack : MethodName := ⟨RX7, "fromHallBack", "(LCordDoors$Loom;III)I"⟩
abbrev cX7_begin : ByteArray := prog_9_method_8_code
def yX7_begin : MethodName := ⟨RX7, "begin", "(I)V"⟩
abbrev cX7_lineUpSets : ByteArray := prog_9_method_9_code
def yX7_lineUpSets : MethodName := ⟨RX7, "lineUpSets", "(LCordDoors$Loom;I)V"⟩
abbrev cX7_lessenAll : ByteArray := prog_9_method_10_code
def yX7_lessenAll : MethodName := ⟨RX7, "lessenAll", "(LCordDoors$Loom;II)I"⟩
abbrev cX7_lessen : ByteArray := prog_9_method_11_code
def yX7_lessen : MethodName := ⟨RX7, "lessen", "(II)I"⟩
def RX8 : String := "CordDoors"
def TX8 : u_T := fun k => match k with
  | 0 => ("CordDoors", "now", "LCordDoors$State;", true)
  | 1 => ("CordDoors", "history", "LCordDoors$History;", true)
  | 2 => ("CordDoors", "snapshot", "LCordDoors$State;", true)
  | 3 => ("CordDoors", "snapshotTaken", "Z", false)
  | 4 => ("CordDoors", "pad", "LCordDoors$Pad;", true)
  | 5 => ("CordDoors", "stop", "LCordDoors$Stop;", true)
  | _ => ("CordDoors", "ways", "LCordDoors$Ways;", true)
def tyX8 : Nat → FieldType := fun k => match k with
  | 0 => .object "CordDoors$State"
  | 1 => .object "CordDoors$History"
  | 2 => .object "CordDoors$State"
  | 3 => .boolean
  | 4 => .object "CordDoors$Pad"
  | 5 => .object "CordDoors$Stop"
  | _ => .object "CordDoors$Ways"
abbrev wsX80 : List Cond := u_ws RX8 TX8 7
theorem nmX8 : ∀ a, a < 7 → ∀ b, b < 7 → a ≠ b → (TX8 a).2.1 ≠ (TX8 b).2.1 := by decide +kernel
theorem tyX8_ok : ∀ k, k < 7 → parseFieldDescriptor (TX8 k).2.2.1 = some (tyX8 k) := by decide +kernel
abbrev cX8_init : ByteArray := prog_1_method_1_code
def yX8_init : MethodName := ⟨RX8, "<init>", "()V"⟩
abbrev cX8_open : ByteArray := prog_1_method_2_code
def yX8_open : MethodName := ⟨RX8, "open", "(I)I"⟩
abbrev cX8_shut : ByteArray := prog_1_method_3_code
def yX8_shut : MethodName := ⟨RX8, "shut", "(I)I"⟩
abbrev cX8_cord : ByteArray := prog_1_method_4_code
def yX8_cord : MethodName := ⟨RX8, "cord", "(IZI)I"⟩
abbrev cX8_join : ByteArray := prog_1_method_5_code
def yX8_join : MethodName := ⟨RX8, "join", "(III)I"⟩
abbrev cX8_keys : ByteArray := prog_1_method_6_code
def yX8_keys : MethodName := ⟨RX8, "keys", "(II)I"⟩
abbrev cX8_draft : ByteArray := prog_1_method_7_code
def yX8_draft : MethodName := ⟨RX8, "draft", "(I)I"⟩
abbrev cX8_guestOpens : ByteArray := prog_1_method_8_code
def yX8_guestOpens : MethodName := ⟨RX8, "guestOpens", "(II)I"⟩
abbrev cX8_guestShuts : ByteArray := prog_1_method_9_code
def yX8_guestShuts : MethodName := ⟨RX8, "guestShuts", "(II)I"⟩
abbrev cX8_walk : ByteArray := prog_1_method_10_code
def yX8_walk : MethodName := ⟨RX8, "walk", "(II)I"⟩
abbrev cX8_append : ByteArray := prog_1_method_11_code
def yX8_append : MethodName := ⟨RX8, "append", "(I)I"⟩
abbrev cX8_clear : ByteArray := prog_1_method_12_code
def yX8_clear : MethodName := ⟨RX8, "clear", "()I"⟩
abbrev cX8_fault : ByteArray := prog_1_method_13_code
def yX8_fault : MethodName := ⟨RX8, "fault", "()I"⟩
abbrev cX8_run : ByteArray := prog_1_method_14_code
def yX8_run : MethodName := ⟨RX8, "run", "()I"⟩
abbrev cX8_why : ByteArray := prog_1_method_15_code
def yX8_why : MethodName := ⟨RX8, "why", "(I)I"⟩
abbrev cX8_door : ByteArray := prog_1_method_16_code
def yX8_door : MethodName := ⟨RX8, "door", "(II)I"⟩
abbrev cX8_hall : ByteArray := prog_1_method_17_code
def yX8_hall : MethodName := ⟨RX8, "hall", "(II)I"⟩
abbrev cX8_guest : ByteArray := prog_1_method_18_code
def yX8_guest : MethodName := ⟨RX8, "guest", "(II)I"⟩
abbrev cX8_whyNot : ByteArray := prog_1_method_19_code
def yX8_whyNot : MethodName := ⟨RX8, "whyNot", "(I)I"⟩
abbrev cX8_together : ByteArray := prog_1_method_20_code
def yX8_together : MethodName := ⟨RX8, "together", "(I)I"⟩
abbrev cX8_can : ByteArray := prog_1_method_21_code
def yX8_can : MethodName := ⟨RX8, "can", "(I)I"⟩
abbrev cX8_deeds : ByteArray := prog_1_method_22_code
def yX8_deeds : MethodName := ⟨RX8, "deeds", "(III)I"⟩
abbrev cX8_count : ByteArray := prog_1_method_23_code
def yX8_count : MethodName := ⟨RX8, "count", "(I)I"⟩
abbrev cX8_tightness : ByteArray := prog_1_method_24_code
def yX8_tightness : MethodName := ⟨RX8, "tightness", "()D"⟩
abbrev cX8_ifOpened : ByteArray := prog_1_method_25_code
def yX8_ifOpened : MethodName := ⟨RX8, "ifOpened", "(II)I"⟩
abbrev cX8_undo : ByteArray := prog_1_method_26_code
def yX8_undo : MethodName := ⟨RX8, "undo", "()I"⟩
abbrev cX8_save : ByteArray := prog_1_method_27_code
def yX8_save : MethodName := ⟨RX8, "save", "()I"⟩
abbrev cX8_restore : ByteArray := prog_1_method_28_code
def yX8_restore : MethodName := ⟨RX8, "restore", "()I"⟩
abbrev cX8_isDoor : ByteArray := prog_1_method_29_code
def yX8_isDoor : MethodName := ⟨RX8, "isDoor", "(I)Z"⟩
abbrev cX8_isHall : ByteArray := prog_1_method_30_code
def yX8_isHall : MethodName := ⟨RX8, "isHall", "(I)Z"⟩
abbrev cX8_isGuest : ByteArray := prog_1_method_31_code
def yX8_isGuest : MethodName := ⟨RX8, "isGuest", "(I)Z"⟩
abbrev cX8_isSetOfDoors : ByteArray := prog_1_method_32_code
def yX8_isSetOfDoors : MethodName := ⟨RX8, "isSetOfDoors", "(I)Z"⟩
abbrev cX8_has : ByteArray := prog_1_method_33_code
def yX8_has : MethodName := ⟨RX8, "has", "(II)Z"⟩
abbrev cX8_without : ByteArray := prog_1_method_34_code
def yX8_without : MethodName := ⟨RX8, "without", "(II)I"⟩
abbrev cX8_spot : ByteArray := prog_1_method_35_code
def yX8_spot : MethodName := ⟨RX8, "spot", "(II)I"⟩
abbrev cX8_doorOrNotFound : ByteArray := prog_1_method_36_code
def yX8_doorOrNotFound : MethodName := ⟨RX8, "doorOrNotFound", "(I)I"⟩
abbrev cX8_runDeedAt : ByteArray := prog_1_method_37_code
def yX8_runDeedAt : MethodName := ⟨RX8, "runDeedAt", "(I)I"⟩
abbrev cX8_mostOfAllSets : ByteArray := prog_1_method_38_code
def yX8_mostOfAllSets : MethodName := ⟨RX8, "mostOfAllSets", "()I"⟩
abbrev cX8_mostDoorByDoor : ByteArray := prog_1_method_39_code
def yX8_mostDoorByDoor : MethodName := ⟨RX8, "mostDoorByDoor", "(LCordDoors$Loom;II)I"⟩
def RX9 : String := "CordDoorsModel"
def TX9 : u_T := fun k => match k with
  | 0 => ("CordDoorsModel", "z", "[I", true)
  | 1 => ("CordDoorsModel", "spare", "[I", true)
  | 2 => ("CordDoorsModel", "past", "[I", true)
  | 3 => ("CordDoorsModel", "states", "I", false)
  | 4 => ("CordDoorsModel", "kept", "[I", true)
  | 5 => ("CordDoorsModel", "isKept", "Z", false)
  | 6 => ("CordDoorsModel", "pad", "[I", true)
  | 7 => ("CordDoorsModel", "typed", "I", false)
  | 8 => ("CordDoorsModel", "stopReason", "I", false)
  | 9 => ("CordDoorsModel", "stopNumber", "I", false)
  | 10 => ("CordDoorsModel", "stopAt", "I", false)
  | 11 => ("CordDoorsModel", "spot", "I", false)
  | 12 => ("CordDoorsModel", "told", "[I", true)
  | 13 => ("CordDoorsModel", "toldMany", "I", false)
  | 14 => ("CordDoorsModel", "fewest", "[I", true)
  | 15 => ("CordDoorsModel", "reached", "[I", true)
  | _ => ("CordDoorsModel", "reachedMany", "I", false)
def tyX9 : Nat → FieldType := fun k => match k with
  | 0 => .array .int
  | 1 => .array .int
  | 2 => .array .int
  | 3 => .int
  | 4 => .array .int
  | 5 => .boolean
  | 6 => .array .int
  | 7 => .int
  | 8 => .int
  | 9 => .int
  | 10 => .int
  | 11 => .int
  | 12 => .array .int
  | 13 => .int
  | 14 => .array .int
  | 15 => .array .int
  | _ => .int
abbrev wsX90 : List Cond := u_ws RX9 TX9 17
theorem nmX9 : ∀ a, a < 17 → ∀ b, b < 17 → a ≠ b → (TX9 a).2.1 ≠ (TX9 b).2.1 := by decide +kernel
theorem tyX9_ok : ∀ k, k < 17 → parseFieldDescriptor (TX9 k).2.2.1 = some (tyX9 k) := by decide +kernel
abbrev cX9_init : ByteArray := prog_11_method_1_code
def yX9_init : MethodName := ⟨RX9, "<init>", "()V"⟩
abbrev cX9_in : ByteArray := prog_11_method_2_code
def yX9_in : MethodName := ⟨RX9, "in", "(III)Z"⟩
abbrev cX9_isDoor : ByteArray := prog_11_method_3_code
def yX9_isDoor : MethodName := ⟨RX9, "isDoor", "(I)Z"⟩
abbrev cX9_isHall : ByteArray := prog_11_method_4_code
def yX9_isHall : MethodName := ⟨RX9, "isHall", "(I)Z"⟩
abbrev cX9_isGuest : ByteArray := prog_11_method_5_code
def yX9_isGuest : MethodName := ⟨RX9, "isGuest", "(I)Z"⟩
abbrev cX9_of : ByteArray := prog_11_method_6_code
def yX9_of : MethodName := ⟨RX9, "of", "(II)I"⟩
abbrev cX9_lay : ByteArray := prog_11_method_7_code
def yX9_lay : MethodName := ⟨RX9, "lay", "(III)V"⟩
abbrev cX9_ofGuest : ByteArray := prog_11_method_8_code
def yX9_ofGuest : MethodName := ⟨RX9, "ofGuest", "(II)I"⟩
abbrev cX9_isOpen : ByteArray := prog_11_method_9_code
def yX9_isOpen : MethodName := ⟨RX9, "isOpen", "(I)Z"⟩
abbrev cX9_joins : ByteArray := prog_11_method_10_code
def yX9_joins : MethodName := ⟨RX9, "joins", "(II)Z"⟩
abbrev cX9_goesTo : ByteArray := prog_11_method_11_code
def yX9_goesTo : MethodName := ⟨RX9, "goesTo", "(II)Z"⟩
abbrev cX9_copyState : ByteArray := prog_11_method_12_code
def yX9_copyState : MethodName := ⟨RX9, "copyState", "([II[II)V"⟩
abbrev cX9_record : ByteArray := prog_11_method_13_code
def yX9_record : MethodName := ⟨RX9, "record", "()V"⟩
abbrev cX9_undo : ByteArray := prog_11_method_14_code
def yX9_undo : MethodName := ⟨RX9, "undo", "()I"⟩
abbrev cX9_openSet : ByteArray := prog_11_method_15_code
def yX9_openSet : MethodName := ⟨RX9, "openSet", "()I"⟩
abbrev cX9_save : ByteArray := prog_11_method_16_code
def yX9_save : MethodName := ⟨RX9, "save", "()I"⟩
abbrev cX9_restore : ByteArray := prog_11_method_17_code
def yX9_restore : MethodName := ⟨RX9, "restore", "()I"⟩
abbrev cX9_cordsTo : ByteArray := prog_11_method_18_code
def yX9_cordsTo : MethodName := ⟨RX9, "cordsTo", "(IZ)I"⟩
abbrev cX9_reason : ByteArray := prog_11_method_19_code
def yX9_reason : MethodName := ⟨RX9, "reason", "(I)I"⟩
abbrev cX9_openIn : ByteArray := prog_11_method_20_code
def yX9_openIn : MethodName := ⟨RX9, "openIn", "(I)I"⟩
abbrev cX9_shuts : ByteArray := prog_11_method_21_code
def yX9_shuts : MethodName := ⟨RX9, "shuts", "(II)V"⟩
abbrev cX9_lowestIn : ByteArray := prog_11_method_22_code
def yX9_lowestIn : MethodName := ⟨RX9, "lowestIn", "(II)I"⟩
abbrev cX9_opens : ByteArray := prog_11_method_23_code
def yX9_opens : MethodName := ⟨RX9, "opens", "(I)I"⟩
abbrev cX9_refuse : ByteArray := prog_11_method_24_code
def yX9_refuse : MethodName := ⟨RX9, "refuse", "(I)I"⟩
abbrev cX9_openNow : ByteArray := prog_11_method_25_code
def yX9_openNow : MethodName := ⟨RX9, "openNow", "(I)I"⟩
abbrev cX9_shutNow : ByteArray := prog_11_method_26_code
def yX9_shutNow : MethodName := ⟨RX9, "shutNow", "(I)I"⟩
abbrev cX9_isAt : ByteArray := prog_11_method_27_code
def yX9_isAt : MethodName := ⟨RX9, "isAt", "(II)Z"⟩
abbrev cX9_hasKey : ByteArray := prog_11_method_28_code
def yX9_hasKey : MethodName := ⟨RX9, "hasKey", "(II)Z"⟩
abbrev cX9_guestOpensNow : ByteArray := prog_11_method_29_code
def yX9_guestOpensNow : MethodName := ⟨RX9, "guestOpensNow", "(II)I"⟩
abbrev cX9_guestShutsNow : ByteArray := prog_11_method_30_code
def yX9_guestShutsNow : MethodName := ⟨RX9, "guestShutsNow", "(II)I"⟩
abbrev cX9_across : ByteArray := prog_11_method_31_code
def yX9_across : MethodName := ⟨RX9, "across", "(II)I"⟩
abbrev cX9_walkNow : ByteArray := prog_11_method_32_code
def yX9_walkNow : MethodName := ⟨RX9, "walkNow", "(II)I"⟩
abbrev cX9_open : ByteArray := prog_11_method_33_code
def yX9_open : MethodName := ⟨RX9, "open", "(I)I"⟩
abbrev cX9_shut : ByteArray := prog_11_method_34_code
def yX9_shut : MethodName := ⟨RX9, "shut", "(I)I"⟩
abbrev cX9_guestOpens : ByteArray := prog_11_method_35_code
def yX9_guestOpens : MethodName := ⟨RX9, "guestOpens", "(II)I"⟩
abbrev cX9_guestShuts : ByteArray := prog_11_method_36_code
def yX9_guestShuts : MethodName := ⟨RX9, "guestShuts", "(II)I"⟩
abbrev cX9_walk : ByteArray := prog_11_method_37_code
def yX9_walk : MethodName := ⟨RX9, "walk", "(II)I"⟩
abbrev cX9_cord : ByteArray := prog_11_method_38_code
def yX9_cord : MethodName := ⟨RX9, "cord", "(IZI)I"⟩
abbrev cX9_lesserHall : ByteArray := prog_11_method_39_code
def yX9_lesserHall : MethodName := ⟨RX9, "lesserHall", "(I)I"⟩
abbrev cX9_greaterHall : ByteArray := prog_11_method_40_code
def yX9_greaterHall : MethodName := ⟨RX9, "greaterHall", "(I)I"⟩
abbrev cX9_join : ByteArray := prog_11_method_41_code
def yX9_join : MethodName := ⟨RX9, "join", "(III)I"⟩
abbrev cX9_keys : ByteArray := prog_11_method_42_code
def yX9_keys : MethodName := ⟨RX9, "keys", "(II)I"⟩
abbrev cX9_draft : ByteArray := prog_11_method_43_code
def yX9_draft : MethodName := ⟨RX9, "draft", "(I)I"⟩
abbrev cX9_append : ByteArray := prog_11_method_44_code
def yX9_append : MethodName := ⟨RX9, "append", "(I)I"⟩
abbrev cX9_clear : ByteArray := prog_11_method_45_code
def yX9_clear : MethodName := ⟨RX9, "clear", "()I"⟩
abbrev cX9_sees : ByteArray := prog_11_method_46_code
def yX9_sees : MethodName := ⟨RX9, "sees", "(II)Z"⟩
abbrev cX9_takes : ByteArray := prog_11_method_47_code
def yX9_takes : MethodName := ⟨RX9, "takes", "(I)Z"⟩
abbrev cX9_takesOne : ByteArray := prog_11_method_48_code
def yX9_takesOne : MethodName := ⟨RX9, "takesOne", "(II)I"⟩
abbrev cX9_readDeed : ByteArray := prog_11_method_49_code
def yX9_readDeed : MethodName := ⟨RX9, "readDeed", "()Z"⟩
abbrev cX9_readPad : ByteArray := prog_11_method_50_code
def yX9_readPad : MethodName := ⟨RX9, "readPad", "()Z"⟩
abbrev cX9_fault : ByteArray := prog_11_method_51_code
def yX9_fault : MethodName := ⟨RX9, "fault", "()I"⟩
abbrev cX9_doDeed : ByteArray := prog_11_method_52_code
def yX9_doDeed : MethodName := ⟨RX9, "doDeed", "(I)I"⟩
abbrev cX9_run : ByteArray := prog_11_method_53_code
def yX9_run : MethodName := ⟨RX9, "run", "()I"⟩
abbrev cX9_why : ByteArray := prog_11_method_54_code
def yX9_why : MethodName := ⟨RX9, "why", "(I)I"⟩
abbrev cX9_door : ByteArray := prog_11_method_55_code
def yX9_door : MethodName := ⟨RX9, "door", "(II)I"⟩
abbrev cX9_doorsOf : ByteArray := prog_11_method_56_code
def yX9_doorsOf : MethodName := ⟨RX9, "doorsOf", "(I)I"⟩
abbrev cX9_guestsIn : ByteArray := prog_11_method_57_code
def yX9_guestsIn : MethodName := ⟨RX9, "guestsIn", "(I)I"⟩
abbrev cX9_hangs : ByteArray := prog_11_method_58_code
def yX9_hangs : MethodName := ⟨RX9, "hangs", "(I)I"⟩
abbrev cX9_size : ByteArray := prog_11_method_59_code
def yX9_size : MethodName := ⟨RX9, "size", "(I)I"⟩
abbrev cX9_hall : ByteArray := prog_11_method_60_code
def yX9_hall : MethodName := ⟨RX9, "hall", "(II)I"⟩
abbrev cX9_canOpen : ByteArray := prog_11_method_61_code
def yX9_canOpen : MethodName := ⟨RX9, "canOpen", "(I)I"⟩
abbrev cX9_guest : ByteArray := prog_11_method_62_code
def yX9_guest : MethodName := ⟨RX9, "guest", "(II)I"⟩
abbrev cX9_whyNot : ByteArray := prog_11_method_63_code
def yX9_whyNot : MethodName := ⟨RX9, "whyNot", "(I)I"⟩
abbrev cX9_canBe : ByteArray := prog_11_method_64_code
def yX9_canBe : MethodName := ⟨RX9, "canBe", "(I)Z"⟩
abbrev cX9_can : ByteArray := prog_11_method_65_code
def yX9_can : MethodName := ⟨RX9, "can", "(I)I"⟩
abbrev cX9_together : ByteArray := prog_11_method_66_code
def yX9_together : MethodName := ⟨RX9, "together", "(I)I"⟩
abbrev cX9_laySet : ByteArray := prog_11_method_67_code
def yX9_laySet : MethodName := ⟨RX9, "laySet", "(I)V"⟩
abbrev cX9_reach : ByteArray := prog_11_method_68_code
def yX9_reach : MethodName := ⟨RX9, "reach", "(II)V"⟩
abbrev cX9_goOn : ByteArray := prog_11_method_69_code
def yX9_goOn : MethodName := ⟨RX9, "goOn", "(II)V"⟩
abbrev cX9_deeds : ByteArray := prog_11_method_70_code
def yX9_deeds : MethodName := ⟨RX9, "deeds", "(III)I"⟩
abbrev cX9_cords : ByteArray := prog_11_method_71_code
def yX9_cords : MethodName := ⟨RX9, "cords", "(Z)I"⟩
abbrev cX9_held : ByteArray := prog_11_method_72_code
def yX9_held : MethodName := ⟨RX9, "held", "()I"⟩
abbrev cX9_pairsOfHalls : ByteArray := prog_11_method_73_code
def yX9_pairsOfHalls : MethodName := ⟨RX9, "pairsOfHalls", "()I"⟩
abbrev cX9_pairsOfDoors : ByteArray := prog_11_method_74_code
def yX9_pairsOfDoors : MethodName := ⟨RX9, "pairsOfDoors", "()I"⟩
abbrev cX9_count : ByteArray := prog_11_method_75_code
def yX9_count : MethodName := ⟨RX9, "count", "(I)I"⟩
abbrev cX9_tightness : ByteArray := prog_11_method_76_code
def yX9_tightness : MethodName := ⟨RX9, "tightness", "()D"⟩
abbrev cX9_ifOpened : ByteArray := prog_11_method_77_code
def yX9_ifOpened : MethodName := ⟨RX9, "ifOpened", "(II)I"⟩
def RJ6 : String := "java/lang/Integer"
def TJ6 : u_T := fun k => match k with
  | _ => ("", "", "", false)
def tyJ6 : Nat → FieldType := fun k => match k with
  | _ => .int
abbrev wsJ60 : List Cond := u_ws RJ6 TJ6 0
theorem nmJ6 : ∀ a, a < 0 → ∀ b, b < 0 → a ≠ b → (TJ6 a).2.1 ≠ (TJ6 b).2.1 := by decide +kernel
theorem tyJ6_ok : ∀ k, k < 0 → parseFieldDescriptor (TJ6 k).2.2.1 = some (tyJ6 k) := by decide +kernel
abbrev cJ6_bitCount_0f7a4 : ByteArray := prog_12_method_49_code
def yJ6_bitCount_0f7a4 : MethodName := ⟨RJ6, "bitCount", "(I)I"⟩
def RJ9 : String := "java/lang/Math"
def TJ9 : u_T := fun k => match k with
  | _ => ("", "", "", false)
def tyJ9 : Nat → FieldType := fun k => match k with
  | _ => .int
abbrev wsJ90 : List Cond := u_ws RJ9 TJ9 0
theorem nmJ9 : ∀ a, a < 0 → ∀ b, b < 0 → a ≠ b → (TJ9 a).2.1 ≠ (TJ9 b).2.1 := by decide +kernel
theorem tyJ9_ok : ∀ k, k < 0 → parseFieldDescriptor (TJ9 k).2.2.1 = some (tyJ9 k) := by decide +kernel
abbrev cJ9_floorMod_7cf53 : ByteArray := prog_13_method_50_code
def yJ9_floorMod_7cf53 : MethodName := ⟨RJ9, "floorMod", "(II)I"⟩
abbrev cJ9_max_7cf53 : ByteArray := prog_13_method_65_code
def yJ9_max_7cf53 : MethodName := ⟨RJ9, "max", "(II)I"⟩
abbrev cJ9_min_7cf53 : ByteArray := prog_13_method_69_code
def yJ9_min_7cf53 : MethodName := ⟨RJ9, "min", "(II)I"⟩
def RJ10 : String := "java/lang/System"
def TJ10 : u_T := fun k => match k with
  | _ => ("", "", "", false)
def tyJ10 : Nat → FieldType := fun k => match k with
  | _ => .int
abbrev wsJ100 : List Cond := u_ws RJ10 TJ10 0
theorem nmJ10 : ∀ a, a < 0 → ∀ b, b < 0 → a ≠ b → (TJ10 a).2.1 ≠ (TJ10 b).2.1 := by decide +kernel
theorem tyJ10_ok : ∀ k, k < 0 → parseFieldDescriptor (TJ10 k).2.2.1 = some (tyJ10 k) := by decide +kernel
def RJ7 : String := "java/util/Arrays"
def TJ7 : u_T := fun k => match k with
  | _ => ("", "", "", false)
def tyJ7 : Nat → FieldType := fun k => match k with
  | _ => .int
abbrev wsJ70 : List Cond := u_ws RJ7 TJ7 0
theorem nmJ7 : ∀ a, a < 0 → ∀ b, b < 0 → a ≠ b → (TJ7 a).2.1 ≠ (TJ7 b).2.1 := by decide +kernel
theorem tyJ7_ok : ∀ k, k < 0 → parseFieldDescriptor (TJ7 k).2.2.1 = some (tyJ7 k) := by decide +kernel
abbrev cJ7_fill_53178 : ByteArray := prog_15_method_103_code
def yJ7_fill_53178 : MethodName := ⟨RJ7, "fill", "([II)V"⟩
def RL : String := "CordDoorsLaw"
abbrev cL_law : ByteArray := code
def yL_law : MethodName := ⟨RL, "law", "([I)Z"⟩
abbrev vwCl : List vw_C := [(RX0, TX0, 7), (RX1, TX1, 3), (RX2, TX2, 3), (RX3, TX3, 6), (RX4, TX4, 2), (RX5, TX5, 4), (RX6, TX6, 3), (RX7, TX7, 3), (RX8, TX8, 7), (RX9, TX9, 17)]

