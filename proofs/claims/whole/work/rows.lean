section
-- ===== PART A: goes FIRST, ahead of the names: the tables' words, and 'selects' of the private methods out of them =====
/-- a private method of a class that the tables say can be made, by its rows of tables_1 -/
def lw_okq (q : MethodName × Nat) : Prop := (q.1.cls ≠ "java/lang/invoke/MethodHandle" ∧ q.1.cls ≠ "java/lang/invoke/VarHandle") ∧ Cond.instantiable q.1.cls q.2 ∈ tables_1 ∧ Cond.privateMethod q.1 ∈ tables_1 ∧ Cond.instanceMethod q.1 ∈ tables_1
theorem lw_p0 : lw_okq (⟨"CordDoors$State", "opensUnless", "(II)I"⟩, 4) := ⟨⟨by decide +kernel, by decide +kernel⟩, List.mem_of_getElem? (i := 24) (by decide +kernel), List.mem_of_getElem? (i := 288) (by decide +kernel), List.mem_of_getElem? (i := 289) (by decide +kernel)⟩
theorem lw_p1 : lw_okq (⟨"CordDoors$Loom", "hasTooMany", "(II)Z"⟩, 6) := ⟨⟨by decide +kernel, by decide +kernel⟩, List.mem_of_getElem? (i := 30) (by decide +kernel), List.mem_of_getElem? (i := 304) (by decide +kernel), List.mem_of_getElem? (i := 305) (by decide +kernel)⟩
theorem lw_p2 : lw_okq (⟨"CordDoors$State", "reasonNotToShut", "(I)I"⟩, 4) := ⟨⟨by decide +kernel, by decide +kernel⟩, List.mem_of_getElem? (i := 24) (by decide +kernel), List.mem_of_getElem? (i := 336) (by decide +kernel), List.mem_of_getElem? (i := 337) (by decide +kernel)⟩
theorem lw_p3 : lw_okq (⟨"CordDoors$State", "shutsUnless", "(II)I"⟩, 4) := ⟨⟨by decide +kernel, by decide +kernel⟩, List.mem_of_getElem? (i := 24) (by decide +kernel), List.mem_of_getElem? (i := 340) (by decide +kernel), List.mem_of_getElem? (i := 341) (by decide +kernel)⟩
theorem lw_p4 : lw_okq (⟨"CordDoors$State", "reasonNotToOpenAsGuest", "(II)I"⟩, 4) := ⟨⟨by decide +kernel, by decide +kernel⟩, List.mem_of_getElem? (i := 24) (by decide +kernel), List.mem_of_getElem? (i := 404) (by decide +kernel), List.mem_of_getElem? (i := 405) (by decide +kernel)⟩
theorem lw_p5 : lw_okq (⟨"CordDoors$State", "isAtDoor", "(II)Z"⟩, 4) := ⟨⟨by decide +kernel, by decide +kernel⟩, List.mem_of_getElem? (i := 24) (by decide +kernel), List.mem_of_getElem? (i := 408) (by decide +kernel), List.mem_of_getElem? (i := 409) (by decide +kernel)⟩
theorem lw_p6 : lw_okq (⟨"CordDoors$State", "reasonNotToUse", "(II)I"⟩, 4) := ⟨⟨by decide +kernel, by decide +kernel⟩, List.mem_of_getElem? (i := 24) (by decide +kernel), List.mem_of_getElem? (i := 424) (by decide +kernel), List.mem_of_getElem? (i := 425) (by decide +kernel)⟩
theorem lw_p7 : lw_okq (⟨"CordDoors$Pad", "codeAt", "(I)I"⟩, 2) := ⟨⟨by decide +kernel, by decide +kernel⟩, List.mem_of_getElem? (i := 161) (by decide +kernel), List.mem_of_getElem? (i := 464) (by decide +kernel), List.mem_of_getElem? (i := 465) (by decide +kernel)⟩
theorem lw_p8 : lw_okq (⟨"CordDoors", "runDeedAt", "(I)I"⟩, 7) := ⟨⟨by decide +kernel, by decide +kernel⟩, List.mem_of_getElem? (i := 16) (by decide +kernel), List.mem_of_getElem? (i := 485) (by decide +kernel), List.mem_of_getElem? (i := 486) (by decide +kernel)⟩
theorem lw_p9 : lw_okq (⟨"CordDoors$Pad", "placeOfLetter", "(I)I"⟩, 2) := ⟨⟨by decide +kernel, by decide +kernel⟩, List.mem_of_getElem? (i := 161) (by decide +kernel), List.mem_of_getElem? (i := 493) (by decide +kernel), List.mem_of_getElem? (i := 494) (by decide +kernel)⟩
theorem lw_p10 : lw_okq (⟨"CordDoors", "mostOfAllSets", "()I"⟩, 7) := ⟨⟨by decide +kernel, by decide +kernel⟩, List.mem_of_getElem? (i := 16) (by decide +kernel), List.mem_of_getElem? (i := 566) (by decide +kernel), List.mem_of_getElem? (i := 567) (by decide +kernel)⟩
theorem lw_p11 : lw_okq (⟨"CordDoors$Ways", "reach", "(II)V"⟩, 3) := ⟨⟨by decide +kernel, by decide +kernel⟩, List.mem_of_getElem? (i := 194) (by decide +kernel), List.mem_of_getElem? (i := 597) (by decide +kernel), List.mem_of_getElem? (i := 598) (by decide +kernel)⟩
theorem lw_p12 : lw_okq (⟨"CordDoors$Ways", "goOnFrom", "(LCordDoors$Loom;II)V"⟩, 3) := ⟨⟨by decide +kernel, by decide +kernel⟩, List.mem_of_getElem? (i := 194) (by decide +kernel), List.mem_of_getElem? (i := 601) (by decide +kernel), List.mem_of_getElem? (i := 602) (by decide +kernel)⟩
theorem lw_p13 : lw_okq (⟨"CordDoors$Ways", "lineUpSets", "(LCordDoors$Loom;I)V"⟩, 3) := ⟨⟨by decide +kernel, by decide +kernel⟩, List.mem_of_getElem? (i := 194) (by decide +kernel), List.mem_of_getElem? (i := 621) (by decide +kernel), List.mem_of_getElem? (i := 622) (by decide +kernel)⟩
theorem lw_p14 : lw_okq (⟨"CordDoors$Ways", "lessenAll", "(LCordDoors$Loom;II)I"⟩, 3) := ⟨⟨by decide +kernel, by decide +kernel⟩, List.mem_of_getElem? (i := 194) (by decide +kernel), List.mem_of_getElem? (i := 625) (by decide +kernel), List.mem_of_getElem? (i := 626) (by decide +kernel)⟩
theorem lw_p15 : lw_okq (⟨"CordDoors$Ways", "lessen", "(II)I"⟩, 3) := ⟨⟨by decide +kernel, by decide +kernel⟩, List.mem_of_getElem? (i := 194) (by decide +kernel), List.mem_of_getElem? (i := 631) (by decide +kernel), List.mem_of_getElem? (i := 632) (by decide +kernel)⟩
def lw_privs_1 : List (MethodName × Nat) := [(⟨"CordDoors$State", "opensUnless", "(II)I"⟩, 4), (⟨"CordDoors$Loom", "hasTooMany", "(II)Z"⟩, 6), (⟨"CordDoors$State", "reasonNotToShut", "(I)I"⟩, 4), (⟨"CordDoors$State", "shutsUnless", "(II)I"⟩, 4), (⟨"CordDoors$State", "reasonNotToOpenAsGuest", "(II)I"⟩, 4), (⟨"CordDoors$State", "isAtDoor", "(II)Z"⟩, 4), (⟨"CordDoors$State", "reasonNotToUse", "(II)I"⟩, 4), (⟨"CordDoors$Pad", "codeAt", "(I)I"⟩, 2), (⟨"CordDoors", "runDeedAt", "(I)I"⟩, 7), (⟨"CordDoors$Pad", "placeOfLetter", "(I)I"⟩, 2), (⟨"CordDoors", "mostOfAllSets", "()I"⟩, 7), (⟨"CordDoors$Ways", "reach", "(II)V"⟩, 3), (⟨"CordDoors$Ways", "goOnFrom", "(LCordDoors$Loom;II)V"⟩, 3), (⟨"CordDoors$Ways", "lineUpSets", "(LCordDoors$Loom;I)V"⟩, 3), (⟨"CordDoors$Ways", "lessenAll", "(LCordDoors$Loom;II)I"⟩, 3), (⟨"CordDoors$Ways", "lessen", "(II)I"⟩, 3)]
theorem lw_r1 : ∀ q ∈ lw_privs_1, lw_okq q := List.forall_mem_cons.mpr ⟨lw_p0, List.forall_mem_cons.mpr ⟨lw_p1, List.forall_mem_cons.mpr ⟨lw_p2, List.forall_mem_cons.mpr ⟨lw_p3, List.forall_mem_cons.mpr ⟨lw_p4, List.forall_mem_cons.mpr ⟨lw_p5, List.forall_mem_cons.mpr ⟨lw_p6, List.forall_mem_cons.mpr ⟨lw_p7, List.forall_mem_cons.mpr ⟨lw_p8, List.forall_mem_cons.mpr ⟨lw_p9, List.forall_mem_cons.mpr ⟨lw_p10, List.forall_mem_cons.mpr ⟨lw_p11, List.forall_mem_cons.mpr ⟨lw_p12, List.forall_mem_cons.mpr ⟨lw_p13, List.forall_mem_cons.mpr ⟨lw_p14, List.forall_mem_cons.mpr ⟨lw_p15, fun _ h => absurd h List.not_mem_nil⟩⟩⟩⟩⟩⟩⟩⟩⟩⟩⟩⟩⟩⟩⟩⟩
theorem lw_p16 : lw_okq (⟨"CordDoorsModel", "lay", "(III)V"⟩, 17) := ⟨⟨by decide +kernel, by decide +kernel⟩, List.mem_of_getElem? (i := 683) (by decide +kernel), List.mem_of_getElem? (i := 689) (by decide +kernel), List.mem_of_getElem? (i := 690) (by decide +kernel)⟩
theorem lw_p17 : lw_okq (⟨"CordDoorsModel", "openSet", "()I"⟩, 17) := ⟨⟨by decide +kernel, by decide +kernel⟩, List.mem_of_getElem? (i := 683) (by decide +kernel), List.mem_of_getElem? (i := 756) (by decide +kernel), List.mem_of_getElem? (i := 757) (by decide +kernel)⟩
theorem lw_p18 : lw_okq (⟨"CordDoorsModel", "of", "(II)I"⟩, 17) := ⟨⟨by decide +kernel, by decide +kernel⟩, List.mem_of_getElem? (i := 683) (by decide +kernel), List.mem_of_getElem? (i := 760) (by decide +kernel), List.mem_of_getElem? (i := 761) (by decide +kernel)⟩
theorem lw_p19 : lw_okq (⟨"CordDoorsModel", "record", "()V"⟩, 17) := ⟨⟨by decide +kernel, by decide +kernel⟩, List.mem_of_getElem? (i := 683) (by decide +kernel), List.mem_of_getElem? (i := 768) (by decide +kernel), List.mem_of_getElem? (i := 769) (by decide +kernel)⟩
theorem lw_p20 : lw_okq (⟨"CordDoorsModel", "openNow", "(I)I"⟩, 17) := ⟨⟨by decide +kernel, by decide +kernel⟩, List.mem_of_getElem? (i := 683) (by decide +kernel), List.mem_of_getElem? (i := 782) (by decide +kernel), List.mem_of_getElem? (i := 783) (by decide +kernel)⟩
theorem lw_p21 : lw_okq (⟨"CordDoorsModel", "reason", "(I)I"⟩, 17) := ⟨⟨by decide +kernel, by decide +kernel⟩, List.mem_of_getElem? (i := 683) (by decide +kernel), List.mem_of_getElem? (i := 786) (by decide +kernel), List.mem_of_getElem? (i := 787) (by decide +kernel)⟩
theorem lw_p22 : lw_okq (⟨"CordDoorsModel", "isOpen", "(I)Z"⟩, 17) := ⟨⟨by decide +kernel, by decide +kernel⟩, List.mem_of_getElem? (i := 683) (by decide +kernel), List.mem_of_getElem? (i := 790) (by decide +kernel), List.mem_of_getElem? (i := 791) (by decide +kernel)⟩
theorem lw_p23 : lw_okq (⟨"CordDoorsModel", "cordsTo", "(IZ)I"⟩, 17) := ⟨⟨by decide +kernel, by decide +kernel⟩, List.mem_of_getElem? (i := 683) (by decide +kernel), List.mem_of_getElem? (i := 794) (by decide +kernel), List.mem_of_getElem? (i := 795) (by decide +kernel)⟩
theorem lw_p24 : lw_okq (⟨"CordDoorsModel", "goesTo", "(II)Z"⟩, 17) := ⟨⟨by decide +kernel, by decide +kernel⟩, List.mem_of_getElem? (i := 683) (by decide +kernel), List.mem_of_getElem? (i := 798) (by decide +kernel), List.mem_of_getElem? (i := 799) (by decide +kernel)⟩
theorem lw_p25 : lw_okq (⟨"CordDoorsModel", "refuse", "(I)I"⟩, 17) := ⟨⟨by decide +kernel, by decide +kernel⟩, List.mem_of_getElem? (i := 683) (by decide +kernel), List.mem_of_getElem? (i := 802) (by decide +kernel), List.mem_of_getElem? (i := 803) (by decide +kernel)⟩
theorem lw_p26 : lw_okq (⟨"CordDoorsModel", "opens", "(I)I"⟩, 17) := ⟨⟨by decide +kernel, by decide +kernel⟩, List.mem_of_getElem? (i := 683) (by decide +kernel), List.mem_of_getElem? (i := 806) (by decide +kernel), List.mem_of_getElem? (i := 807) (by decide +kernel)⟩
theorem lw_p27 : lw_okq (⟨"CordDoorsModel", "shuts", "(II)V"⟩, 17) := ⟨⟨by decide +kernel, by decide +kernel⟩, List.mem_of_getElem? (i := 683) (by decide +kernel), List.mem_of_getElem? (i := 810) (by decide +kernel), List.mem_of_getElem? (i := 811) (by decide +kernel)⟩
theorem lw_p28 : lw_okq (⟨"CordDoorsModel", "openIn", "(I)I"⟩, 17) := ⟨⟨by decide +kernel, by decide +kernel⟩, List.mem_of_getElem? (i := 683) (by decide +kernel), List.mem_of_getElem? (i := 814) (by decide +kernel), List.mem_of_getElem? (i := 815) (by decide +kernel)⟩
theorem lw_p29 : lw_okq (⟨"CordDoorsModel", "joins", "(II)Z"⟩, 17) := ⟨⟨by decide +kernel, by decide +kernel⟩, List.mem_of_getElem? (i := 683) (by decide +kernel), List.mem_of_getElem? (i := 818) (by decide +kernel), List.mem_of_getElem? (i := 819) (by decide +kernel)⟩
theorem lw_p30 : lw_okq (⟨"CordDoorsModel", "lowestIn", "(II)I"⟩, 17) := ⟨⟨by decide +kernel, by decide +kernel⟩, List.mem_of_getElem? (i := 683) (by decide +kernel), List.mem_of_getElem? (i := 822) (by decide +kernel), List.mem_of_getElem? (i := 823) (by decide +kernel)⟩
theorem lw_p31 : lw_okq (⟨"CordDoorsModel", "shutNow", "(I)I"⟩, 17) := ⟨⟨by decide +kernel, by decide +kernel⟩, List.mem_of_getElem? (i := 683) (by decide +kernel), List.mem_of_getElem? (i := 830) (by decide +kernel), List.mem_of_getElem? (i := 831) (by decide +kernel)⟩
def lw_privs_2 : List (MethodName × Nat) := [(⟨"CordDoorsModel", "lay", "(III)V"⟩, 17), (⟨"CordDoorsModel", "openSet", "()I"⟩, 17), (⟨"CordDoorsModel", "of", "(II)I"⟩, 17), (⟨"CordDoorsModel", "record", "()V"⟩, 17), (⟨"CordDoorsModel", "openNow", "(I)I"⟩, 17), (⟨"CordDoorsModel", "reason", "(I)I"⟩, 17), (⟨"CordDoorsModel", "isOpen", "(I)Z"⟩, 17), (⟨"CordDoorsModel", "cordsTo", "(IZ)I"⟩, 17), (⟨"CordDoorsModel", "goesTo", "(II)Z"⟩, 17), (⟨"CordDoorsModel", "refuse", "(I)I"⟩, 17), (⟨"CordDoorsModel", "opens", "(I)I"⟩, 17), (⟨"CordDoorsModel", "shuts", "(II)V"⟩, 17), (⟨"CordDoorsModel", "openIn", "(I)I"⟩, 17), (⟨"CordDoorsModel", "joins", "(II)Z"⟩, 17), (⟨"CordDoorsModel", "lowestIn", "(II)I"⟩, 17), (⟨"CordDoorsModel", "shutNow", "(I)I"⟩, 17)]
theorem lw_r2 : ∀ q ∈ lw_privs_2, lw_okq q := List.forall_mem_cons.mpr ⟨lw_p16, List.forall_mem_cons.mpr ⟨lw_p17, List.forall_mem_cons.mpr ⟨lw_p18, List.forall_mem_cons.mpr ⟨lw_p19, List.forall_mem_cons.mpr ⟨lw_p20, List.forall_mem_cons.mpr ⟨lw_p21, List.forall_mem_cons.mpr ⟨lw_p22, List.forall_mem_cons.mpr ⟨lw_p23, List.forall_mem_cons.mpr ⟨lw_p24, List.forall_mem_cons.mpr ⟨lw_p25, List.forall_mem_cons.mpr ⟨lw_p26, List.forall_mem_cons.mpr ⟨lw_p27, List.forall_mem_cons.mpr ⟨lw_p28, List.forall_mem_cons.mpr ⟨lw_p29, List.forall_mem_cons.mpr ⟨lw_p30, List.forall_mem_cons.mpr ⟨lw_p31, fun _ h => absurd h List.not_mem_nil⟩⟩⟩⟩⟩⟩⟩⟩⟩⟩⟩⟩⟩⟩⟩⟩
theorem lw_p32 : lw_okq (⟨"CordDoorsModel", "guestOpensNow", "(II)I"⟩, 17) := ⟨⟨by decide +kernel, by decide +kernel⟩, List.mem_of_getElem? (i := 683) (by decide +kernel), List.mem_of_getElem? (i := 841) (by decide +kernel), List.mem_of_getElem? (i := 842) (by decide +kernel)⟩
theorem lw_p33 : lw_okq (⟨"CordDoorsModel", "isAt", "(II)Z"⟩, 17) := ⟨⟨by decide +kernel, by decide +kernel⟩, List.mem_of_getElem? (i := 683) (by decide +kernel), List.mem_of_getElem? (i := 845) (by decide +kernel), List.mem_of_getElem? (i := 846) (by decide +kernel)⟩
theorem lw_p34 : lw_okq (⟨"CordDoorsModel", "ofGuest", "(II)I"⟩, 17) := ⟨⟨by decide +kernel, by decide +kernel⟩, List.mem_of_getElem? (i := 683) (by decide +kernel), List.mem_of_getElem? (i := 849) (by decide +kernel), List.mem_of_getElem? (i := 850) (by decide +kernel)⟩
theorem lw_p35 : lw_okq (⟨"CordDoorsModel", "hasKey", "(II)Z"⟩, 17) := ⟨⟨by decide +kernel, by decide +kernel⟩, List.mem_of_getElem? (i := 683) (by decide +kernel), List.mem_of_getElem? (i := 853) (by decide +kernel), List.mem_of_getElem? (i := 854) (by decide +kernel)⟩
theorem lw_p36 : lw_okq (⟨"CordDoorsModel", "guestShutsNow", "(II)I"⟩, 17) := ⟨⟨by decide +kernel, by decide +kernel⟩, List.mem_of_getElem? (i := 683) (by decide +kernel), List.mem_of_getElem? (i := 861) (by decide +kernel), List.mem_of_getElem? (i := 862) (by decide +kernel)⟩
theorem lw_p37 : lw_okq (⟨"CordDoorsModel", "walkNow", "(II)I"⟩, 17) := ⟨⟨by decide +kernel, by decide +kernel⟩, List.mem_of_getElem? (i := 683) (by decide +kernel), List.mem_of_getElem? (i := 869) (by decide +kernel), List.mem_of_getElem? (i := 870) (by decide +kernel)⟩
theorem lw_p38 : lw_okq (⟨"CordDoorsModel", "across", "(II)I"⟩, 17) := ⟨⟨by decide +kernel, by decide +kernel⟩, List.mem_of_getElem? (i := 683) (by decide +kernel), List.mem_of_getElem? (i := 873) (by decide +kernel), List.mem_of_getElem? (i := 874) (by decide +kernel)⟩
theorem lw_p39 : lw_okq (⟨"CordDoorsModel", "lesserHall", "(I)I"⟩, 17) := ⟨⟨by decide +kernel, by decide +kernel⟩, List.mem_of_getElem? (i := 683) (by decide +kernel), List.mem_of_getElem? (i := 888) (by decide +kernel), List.mem_of_getElem? (i := 889) (by decide +kernel)⟩
theorem lw_p40 : lw_okq (⟨"CordDoorsModel", "greaterHall", "(I)I"⟩, 17) := ⟨⟨by decide +kernel, by decide +kernel⟩, List.mem_of_getElem? (i := 683) (by decide +kernel), List.mem_of_getElem? (i := 892) (by decide +kernel), List.mem_of_getElem? (i := 893) (by decide +kernel)⟩
theorem lw_p41 : lw_okq (⟨"CordDoorsModel", "readPad", "()Z"⟩, 17) := ⟨⟨by decide +kernel, by decide +kernel⟩, List.mem_of_getElem? (i := 683) (by decide +kernel), List.mem_of_getElem? (i := 916) (by decide +kernel), List.mem_of_getElem? (i := 917) (by decide +kernel)⟩
theorem lw_p42 : lw_okq (⟨"CordDoorsModel", "readDeed", "()Z"⟩, 17) := ⟨⟨by decide +kernel, by decide +kernel⟩, List.mem_of_getElem? (i := 683) (by decide +kernel), List.mem_of_getElem? (i := 920) (by decide +kernel), List.mem_of_getElem? (i := 921) (by decide +kernel)⟩
theorem lw_p43 : lw_okq (⟨"CordDoorsModel", "takes", "(I)Z"⟩, 17) := ⟨⟨by decide +kernel, by decide +kernel⟩, List.mem_of_getElem? (i := 683) (by decide +kernel), List.mem_of_getElem? (i := 924) (by decide +kernel), List.mem_of_getElem? (i := 925) (by decide +kernel)⟩
theorem lw_p44 : lw_okq (⟨"CordDoorsModel", "sees", "(II)Z"⟩, 17) := ⟨⟨by decide +kernel, by decide +kernel⟩, List.mem_of_getElem? (i := 683) (by decide +kernel), List.mem_of_getElem? (i := 928) (by decide +kernel), List.mem_of_getElem? (i := 929) (by decide +kernel)⟩
theorem lw_p45 : lw_okq (⟨"CordDoorsModel", "takesOne", "(II)I"⟩, 17) := ⟨⟨by decide +kernel, by decide +kernel⟩, List.mem_of_getElem? (i := 683) (by decide +kernel), List.mem_of_getElem? (i := 932) (by decide +kernel), List.mem_of_getElem? (i := 933) (by decide +kernel)⟩
theorem lw_p46 : lw_okq (⟨"CordDoorsModel", "doDeed", "(I)I"⟩, 17) := ⟨⟨by decide +kernel, by decide +kernel⟩, List.mem_of_getElem? (i := 683) (by decide +kernel), List.mem_of_getElem? (i := 940) (by decide +kernel), List.mem_of_getElem? (i := 941) (by decide +kernel)⟩
theorem lw_p47 : lw_okq (⟨"CordDoorsModel", "doorsOf", "(I)I"⟩, 17) := ⟨⟨by decide +kernel, by decide +kernel⟩, List.mem_of_getElem? (i := 683) (by decide +kernel), List.mem_of_getElem? (i := 956) (by decide +kernel), List.mem_of_getElem? (i := 957) (by decide +kernel)⟩
def lw_privs_3 : List (MethodName × Nat) := [(⟨"CordDoorsModel", "guestOpensNow", "(II)I"⟩, 17), (⟨"CordDoorsModel", "isAt", "(II)Z"⟩, 17), (⟨"CordDoorsModel", "ofGuest", "(II)I"⟩, 17), (⟨"CordDoorsModel", "hasKey", "(II)Z"⟩, 17), (⟨"CordDoorsModel", "guestShutsNow", "(II)I"⟩, 17), (⟨"CordDoorsModel", "walkNow", "(II)I"⟩, 17), (⟨"CordDoorsModel", "across", "(II)I"⟩, 17), (⟨"CordDoorsModel", "lesserHall", "(I)I"⟩, 17), (⟨"CordDoorsModel", "greaterHall", "(I)I"⟩, 17), (⟨"CordDoorsModel", "readPad", "()Z"⟩, 17), (⟨"CordDoorsModel", "readDeed", "()Z"⟩, 17), (⟨"CordDoorsModel", "takes", "(I)Z"⟩, 17), (⟨"CordDoorsModel", "sees", "(II)Z"⟩, 17), (⟨"CordDoorsModel", "takesOne", "(II)I"⟩, 17), (⟨"CordDoorsModel", "doDeed", "(I)I"⟩, 17), (⟨"CordDoorsModel", "doorsOf", "(I)I"⟩, 17)]
theorem lw_r3 : ∀ q ∈ lw_privs_3, lw_okq q := List.forall_mem_cons.mpr ⟨lw_p32, List.forall_mem_cons.mpr ⟨lw_p33, List.forall_mem_cons.mpr ⟨lw_p34, List.forall_mem_cons.mpr ⟨lw_p35, List.forall_mem_cons.mpr ⟨lw_p36, List.forall_mem_cons.mpr ⟨lw_p37, List.forall_mem_cons.mpr ⟨lw_p38, List.forall_mem_cons.mpr ⟨lw_p39, List.forall_mem_cons.mpr ⟨lw_p40, List.forall_mem_cons.mpr ⟨lw_p41, List.forall_mem_cons.mpr ⟨lw_p42, List.forall_mem_cons.mpr ⟨lw_p43, List.forall_mem_cons.mpr ⟨lw_p44, List.forall_mem_cons.mpr ⟨lw_p45, List.forall_mem_cons.mpr ⟨lw_p46, List.forall_mem_cons.mpr ⟨lw_p47, fun _ h => absurd h List.not_mem_nil⟩⟩⟩⟩⟩⟩⟩⟩⟩⟩⟩⟩⟩⟩⟩⟩
theorem lw_p48 : lw_okq (⟨"CordDoorsModel", "guestsIn", "(I)I"⟩, 17) := ⟨⟨by decide +kernel, by decide +kernel⟩, List.mem_of_getElem? (i := 683) (by decide +kernel), List.mem_of_getElem? (i := 960) (by decide +kernel), List.mem_of_getElem? (i := 961) (by decide +kernel)⟩
theorem lw_p49 : lw_okq (⟨"CordDoorsModel", "hangs", "(I)I"⟩, 17) := ⟨⟨by decide +kernel, by decide +kernel⟩, List.mem_of_getElem? (i := 683) (by decide +kernel), List.mem_of_getElem? (i := 964) (by decide +kernel), List.mem_of_getElem? (i := 965) (by decide +kernel)⟩
theorem lw_p50 : lw_okq (⟨"CordDoorsModel", "canOpen", "(I)I"⟩, 17) := ⟨⟨by decide +kernel, by decide +kernel⟩, List.mem_of_getElem? (i := 683) (by decide +kernel), List.mem_of_getElem? (i := 975) (by decide +kernel), List.mem_of_getElem? (i := 976) (by decide +kernel)⟩
theorem lw_p51 : lw_okq (⟨"CordDoorsModel", "canBe", "(I)Z"⟩, 17) := ⟨⟨by decide +kernel, by decide +kernel⟩, List.mem_of_getElem? (i := 683) (by decide +kernel), List.mem_of_getElem? (i := 987) (by decide +kernel), List.mem_of_getElem? (i := 988) (by decide +kernel)⟩
theorem lw_p52 : lw_okq (⟨"CordDoorsModel", "reach", "(II)V"⟩, 17) := ⟨⟨by decide +kernel, by decide +kernel⟩, List.mem_of_getElem? (i := 683) (by decide +kernel), List.mem_of_getElem? (i := 999) (by decide +kernel), List.mem_of_getElem? (i := 1000) (by decide +kernel)⟩
theorem lw_p53 : lw_okq (⟨"CordDoorsModel", "goOn", "(II)V"⟩, 17) := ⟨⟨by decide +kernel, by decide +kernel⟩, List.mem_of_getElem? (i := 683) (by decide +kernel), List.mem_of_getElem? (i := 1003) (by decide +kernel), List.mem_of_getElem? (i := 1004) (by decide +kernel)⟩
theorem lw_p54 : lw_okq (⟨"CordDoorsModel", "laySet", "(I)V"⟩, 17) := ⟨⟨by decide +kernel, by decide +kernel⟩, List.mem_of_getElem? (i := 683) (by decide +kernel), List.mem_of_getElem? (i := 1007) (by decide +kernel), List.mem_of_getElem? (i := 1008) (by decide +kernel)⟩
theorem lw_p55 : lw_okq (⟨"CordDoorsModel", "cords", "(Z)I"⟩, 17) := ⟨⟨by decide +kernel, by decide +kernel⟩, List.mem_of_getElem? (i := 683) (by decide +kernel), List.mem_of_getElem? (i := 1015) (by decide +kernel), List.mem_of_getElem? (i := 1016) (by decide +kernel)⟩
theorem lw_p56 : lw_okq (⟨"CordDoorsModel", "held", "()I"⟩, 17) := ⟨⟨by decide +kernel, by decide +kernel⟩, List.mem_of_getElem? (i := 683) (by decide +kernel), List.mem_of_getElem? (i := 1019) (by decide +kernel), List.mem_of_getElem? (i := 1020) (by decide +kernel)⟩
theorem lw_p57 : lw_okq (⟨"CordDoorsModel", "pairsOfHalls", "()I"⟩, 17) := ⟨⟨by decide +kernel, by decide +kernel⟩, List.mem_of_getElem? (i := 683) (by decide +kernel), List.mem_of_getElem? (i := 1023) (by decide +kernel), List.mem_of_getElem? (i := 1024) (by decide +kernel)⟩
theorem lw_p58 : lw_okq (⟨"CordDoorsModel", "pairsOfDoors", "()I"⟩, 17) := ⟨⟨by decide +kernel, by decide +kernel⟩, List.mem_of_getElem? (i := 683) (by decide +kernel), List.mem_of_getElem? (i := 1027) (by decide +kernel), List.mem_of_getElem? (i := 1028) (by decide +kernel)⟩
def lw_privs_4 : List (MethodName × Nat) := [(⟨"CordDoorsModel", "guestsIn", "(I)I"⟩, 17), (⟨"CordDoorsModel", "hangs", "(I)I"⟩, 17), (⟨"CordDoorsModel", "canOpen", "(I)I"⟩, 17), (⟨"CordDoorsModel", "canBe", "(I)Z"⟩, 17), (⟨"CordDoorsModel", "reach", "(II)V"⟩, 17), (⟨"CordDoorsModel", "goOn", "(II)V"⟩, 17), (⟨"CordDoorsModel", "laySet", "(I)V"⟩, 17), (⟨"CordDoorsModel", "cords", "(Z)I"⟩, 17), (⟨"CordDoorsModel", "held", "()I"⟩, 17), (⟨"CordDoorsModel", "pairsOfHalls", "()I"⟩, 17), (⟨"CordDoorsModel", "pairsOfDoors", "()I"⟩, 17)]
theorem lw_r4 : ∀ q ∈ lw_privs_4, lw_okq q := List.forall_mem_cons.mpr ⟨lw_p48, List.forall_mem_cons.mpr ⟨lw_p49, List.forall_mem_cons.mpr ⟨lw_p50, List.forall_mem_cons.mpr ⟨lw_p51, List.forall_mem_cons.mpr ⟨lw_p52, List.forall_mem_cons.mpr ⟨lw_p53, List.forall_mem_cons.mpr ⟨lw_p54, List.forall_mem_cons.mpr ⟨lw_p55, List.forall_mem_cons.mpr ⟨lw_p56, List.forall_mem_cons.mpr ⟨lw_p57, List.forall_mem_cons.mpr ⟨lw_p58, fun _ h => absurd h List.not_mem_nil⟩⟩⟩⟩⟩⟩⟩⟩⟩⟩⟩
def lw_privs : List (MethodName × Nat) := lw_privs_1 ++ (lw_privs_2 ++ (lw_privs_3 ++ (lw_privs_4)))
def lw_tbl : List Cond := k2_sels lw_privs ++ tables_1
theorem lw_privs_ok : ∀ q ∈ lw_privs, lw_okq q := by
  show ∀ q ∈ lw_privs_1 ++ (lw_privs_2 ++ (lw_privs_3 ++ (lw_privs_4))), lw_okq q
  exact List.forall_mem_append.mpr ⟨lw_r1, List.forall_mem_append.mpr ⟨lw_r2, List.forall_mem_append.mpr ⟨lw_r3, lw_r4⟩⟩⟩
/-- the streams that the claim lets the run draw from -/
abbrev lw_cs : List Choice := [Jvm.Choice.named "NaN.bits"]
theorem lw_bits : nanBits ∈ lw_cs := by first | decide | exact List.mem_cons_self | simp [lw_cs, nanBits]
/-! ===== BEGIN printed: names, fields, word lists, decode rows ===== -/
def RX0 : String := "CordDoors$Accounts"
def TX0 : u_T := fun k => match k with
  | 0 => ("CordDoors$Accounts", "openings", "[I", true)
  | 1 => ("CordDoors$Accounts", "shuttings", "[I", true)
  | 2 => ("CordDoors$Accounts", "opened", "I", false)
  | 3 => ("CordDoors$Accounts", "shutByHand", "I", false)
  | 4 => ("CordDoors$Accounts", "shutByCords", "I", false)
  | 5 => ("CordDoors$Accounts", "shutByDrafts", "I", false)
  | _ => ("CordDoors$Accounts", "refused", "I", false)
def tyX0 : Nat → FieldType := fun k => match k with
  | 0 => .array .int
  | 1 => .array .int
  | 2 => .int
  | 3 => .int
  | 4 => .int
  | 5 => .int
  | _ => .int
abbrev wsX00 : List Cond := u_ws RX0 TX0 7
theorem nmX0 : ∀ a, a < 7 → ∀ b, b < 7 → a ≠ b → (TX0 a).2.1 ≠ (TX0 b).2.1 := by decide +kernel
theorem tyX0_ok : ∀ k, k < 7 → parseFieldDescriptor (TX0 k).2.2.1 = some (tyX0 k) := by decide +kernel
abbrev cX0_init : ByteArray := prog_2_method_1_code
def yX0_init : MethodName := ⟨RX0, "<init>", "()V"⟩
abbrev cX0_copy : ByteArray := prog_2_method_2_code
def yX0_copy : MethodName := ⟨RX0, "copy", "(LCordDoors$Accounts;)V"⟩
abbrev cX0_noteOpened : ByteArray := prog_2_method_3_code
def yX0_noteOpened : MethodName := ⟨RX0, "noteOpened", "(I)V"⟩
abbrev cX0_noteShutByHand : ByteArray := prog_2_method_4_code
def yX0_noteShutByHand : MethodName := ⟨RX0, "noteShutByHand", "(I)V"⟩
abbrev cX0_noteShutByOpening : ByteArray := prog_2_method_5_code
def yX0_noteShutByOpening : MethodName := ⟨RX0, "noteShutByOpening", "(II)V"⟩
abbrev cX0_noteRefused : ByteArray := prog_2_method_6_code
def yX0_noteRefused : MethodName := ⟨RX0, "noteRefused", "(I)I"⟩
def RX1 : String := "CordDoors$Guests"
def TX1 : u_T := fun k => match k with
  | 0 => ("CordDoors$Guests", "halls", "[I", true)
  | 1 => ("CordDoors$Guests", "keySets", "[I", true)
  | _ => ("CordDoors$Guests", "walks", "[I", true)
def tyX1 : Nat → FieldType := fun k => match k with
  | 0 => .array .int
  | 1 => .array .int
  | _ => .array .int
abbrev wsX10 : List Cond := u_ws RX1 TX1 3
theorem nmX1 : ∀ a, a < 3 → ∀ b, b < 3 → a ≠ b → (TX1 a).2.1 ≠ (TX1 b).2.1 := by decide +kernel
theorem tyX1_ok : ∀ k, k < 3 → parseFieldDescriptor (TX1 k).2.2.1 = some (tyX1 k) := by decide +kernel
abbrev cX1_init : ByteArray := prog_3_method_1_code
def yX1_init : MethodName := ⟨RX1, "<init>", "()V"⟩
abbrev cX1_copy : ByteArray := prog_3_method_2_code
def yX1_copy : MethodName := ⟨RX1, "copy", "(LCordDoors$Guests;)V"⟩
abbrev cX1_howManyIn : ByteArray := prog_3_method_3_code
def yX1_howManyIn : MethodName := ⟨RX1, "howManyIn", "(I)I"⟩
def RX2 : String := "CordDoors$History"
def TX2 : u_T := fun k => match k with
  | 0 => ("CordDoors$History", "states", "[LCordDoors$State;", true)
  | 1 => ("CordDoors$History", "oldest", "I", false)
  | _ => ("CordDoors$History", "size", "I", false)
def tyX2 : Nat → FieldType := fun k => match k with
  | 0 => .array (.object "CordDoors$State")
  | 1 => .int
  | _ => .int
abbrev wsX20 : List Cond := u_ws RX2 TX2 3
theorem nmX2 : ∀ a, a < 3 → ∀ b, b < 3 → a ≠ b → (TX2 a).2.1 ≠ (TX2 b).2.1 := by decide +kernel
theorem tyX2_ok : ∀ k, k < 3 → parseFieldDescriptor (TX2 k).2.2.1 = some (tyX2 k) := by decide +kernel
abbrev cX2_init : ByteArray := prog_4_method_1_code
def yX2_init : MethodName := ⟨RX2, "<init>", "()V"⟩
abbrev cX2_record : ByteArray := prog_4_method_2_code
def yX2_record : MethodName := ⟨RX2, "record", "(LCordDoors$State;)V"⟩
abbrev cX2_takeBack : ByteArray := prog_4_method_3_code
def yX2_takeBack : MethodName := ⟨RX2, "takeBack", "(LCordDoors$State;)V"⟩
def RX3 : String := "CordDoors$Loom"
def TX3 : u_T := fun k => match k with
  | 0 => ("CordDoors$Loom", "firstCords", "[I", true)
  | 1 => ("CordDoors$Loom", "secondCords", "[I", true)
  | 2 => ("CordDoors$Loom", "lesserHalls", "[I", true)
  | 3 => ("CordDoors$Loom", "greaterHalls", "[I", true)
  | 4 => ("CordDoors$Loom", "doorsOfHalls", "[I", true)
  | _ => ("CordDoors$Loom", "draftSetting", "I", false)
def tyX3 : Nat → FieldType := fun k => match k with
  | 0 => .array .int
  | 1 => .array .int
  | 2 => .array .int
  | 3 => .array .int
  | 4 => .array .int
  | _ => .int
abbrev wsX30 : List Cond := u_ws RX3 TX3 6
theorem nmX3 : ∀ a, a < 6 → ∀ b, b < 6 → a ≠ b → (TX3 a).2.1 ≠ (TX3 b).2.1 := by decide +kernel
theorem tyX3_ok : ∀ k, k < 6 → parseFieldDescriptor (TX3 k).2.2.1 = some (tyX3 k) := by decide +kernel
abbrev cX3_init : ByteArray := prog_5_method_1_code
def yX3_init : MethodName := ⟨RX3, "<init>", "()V"⟩
abbrev cX3_copy : ByteArray := prog_5_method_2_code
def yX3_copy : MethodName := ⟨RX3, "copy", "(LCordDoors$Loom;)V"⟩
abbrev cX3_hang : ByteArray := prog_5_method_3_code
def yX3_hang : MethodName := ⟨RX3, "hang", "(III)V"⟩
abbrev cX3_lesserHall : ByteArray := prog_5_method_4_code
def yX3_lesserHall : MethodName := ⟨RX3, "lesserHall", "(I)I"⟩
abbrev cX3_greaterHall : ByteArray := prog_5_method_5_code
def yX3_greaterHall : MethodName := ⟨RX3, "greaterHall", "(I)I"⟩
abbrev cX3_otherHall : ByteArray := prog_5_method_6_code
def yX3_otherHall : MethodName := ⟨RX3, "otherHall", "(II)I"⟩
abbrev cX3_doorsOf : ByteArray := prog_5_method_7_code
def yX3_doorsOf : MethodName := ⟨RX3, "doorsOf", "(I)I"⟩
abbrev cX3_cordOf : ByteArray := prog_5_method_8_code
def yX3_cordOf : MethodName := ⟨RX3, "cordOf", "(IZ)I"⟩
abbrev cX3_layCord : ByteArray := prog_5_method_9_code
def yX3_layCord : MethodName := ⟨RX3, "layCord", "(IZI)V"⟩
abbrev cX3_targetsOf : ByteArray := prog_5_method_10_code
def yX3_targetsOf : MethodName := ⟨RX3, "targetsOf", "(I)I"⟩
abbrev cX3_heldBy : ByteArray := prog_5_method_11_code
def yX3_heldBy : MethodName := ⟨RX3, "heldBy", "(I)I"⟩
abbrev cX3_cordsOf : ByteArray := prog_5_method_12_code
def yX3_cordsOf : MethodName := ⟨RX3, "cordsOf", "(I)I"⟩
abbrev cX3_cordsTo : ByteArray := prog_5_method_13_code
def yX3_cordsTo : MethodName := ⟨RX3, "cordsTo", "(II)I"⟩
abbrev cX3_pairsOfDoors : ByteArray := prog_5_method_14_code
def yX3_pairsOfDoors : MethodName := ⟨RX3, "pairsOfDoors", "()I"⟩
abbrev cX3_canBeOpen : ByteArray := prog_5_method_15_code
def yX3_canBeOpen : MethodName := ⟨RX3, "canBeOpen", "(I)Z"⟩
abbrev cX3_hasTooMany : ByteArray := prog_5_method_16_code
def yX3_hasTooMany : MethodName := ⟨RX3, "hasTooMany", "(II)Z"⟩
abbrev cX3_afterOpening : ByteArray := prog_5_method_17_code
def yX3_afterOpening : MethodName := ⟨RX3, "afterOpening", "(II)I"⟩
abbrev cX3_afterCords : ByteArray := prog_5_method_18_code
def yX3_afterCords : MethodName := ⟨RX3, "afterCords", "(II)I"⟩
abbrev cX3_afterDrafts : ByteArray := prog_5_method_19_code
def yX3_afterDrafts : MethodName := ⟨RX3, "afterDrafts", "(II)I"⟩
abbrev cX3_hallsFrom : ByteArray := prog_5_method_20_code
def yX3_hallsFrom : MethodName := ⟨RX3, "hallsFrom", "(II)I"⟩
abbrev cX3_pairsOfHalls : ByteArray := prog_5_method_21_code
def yX3_pairsOfHalls : MethodName := ⟨RX3, "pairsOfHalls", "(I)I"⟩
def RX4 : String := "CordDoors$Pad"
def TX4 : u_T := fun k => match k with
  | 0 => ("CordDoors$Pad", "codes", "[I", true)
  | _ => ("CordDoors$Pad", "length", "I", false)
def tyX4 : Nat → FieldType := fun k => match k with
  | 0 => .array .int
  | _ => .int
abbrev wsX40 : List Cond := u_ws RX4 TX4 2
theorem nmX4 : ∀ a, a < 2 → ∀ b, b < 2 → a ≠ b → (TX4 a).2.1 ≠ (TX4 b).2.1 := by decide +kernel
theorem tyX4_ok : ∀ k, k < 2 → parseFieldDescriptor (TX4 k).2.2.1 = some (tyX4 k) := by decide +kernel
abbrev cX4_init : ByteArray := prog_6_method_1_code
def yX4_init : MethodName := ⟨RX4, "<init>", "()V"⟩
abbrev cX4_add : ByteArray := prog_6_method_2_code
def yX4_add : MethodName := ⟨RX4, "add", "(I)I"⟩
abbrev cX4_empty : ByteArray := prog_6_method_3_code
def yX4_empty : MethodName := ⟨RX4, "empty", "()I"⟩
abbrev cX4_faultPlace : ByteArray := prog_6_method_4_code
def yX4_faultPlace : MethodName := ⟨RX4, "faultPlace", "()I"⟩
abbrev cX4_expectedAfter : ByteArray := prog_6_method_5_code
def yX4_expectedAfter : MethodName := ⟨RX4, "expectedAfter", "(II)I"⟩
abbrev cX4_codeAt : ByteArray := prog_6_method_6_code
def yX4_codeAt : MethodName := ⟨RX4, "codeAt", "(I)I"⟩
abbrev cX4_isGuestsDeed : ByteArray := prog_6_method_7_code
def yX4_isGuestsDeed : MethodName := ⟨RX4, "isGuestsDeed", "(I)Z"⟩
abbrev cX4_guestOfDeed : ByteArray := prog_6_method_8_code
def yX4_guestOfDeed : MethodName := ⟨RX4, "guestOfDeed", "(I)I"⟩
abbrev cX4_letterOfDeed : ByteArray := prog_6_method_9_code
def yX4_letterOfDeed : MethodName := ⟨RX4, "letterOfDeed", "(I)I"⟩
abbrev cX4_doorOfDeed : ByteArray := prog_6_method_10_code
def yX4_doorOfDeed : MethodName := ⟨RX4, "doorOfDeed", "(I)I"⟩
abbrev cX4_placeOfNextDeed : ByteArray := prog_6_method_11_code
def yX4_placeOfNextDeed : MethodName := ⟨RX4, "placeOfNextDeed", "(I)I"⟩
abbrev cX4_placeOfLetter : ByteArray := prog_6_method_12_code
def yX4_placeOfLetter : MethodName := ⟨RX4, "placeOfLetter", "(I)I"⟩
def RX5 : String := "CordDoors$State"
def TX5 : u_T := fun k => match k with
  | 0 => ("CordDoors$State", "loom", "LCordDoors$Loom;", true)
  | 1 => ("CordDoors$State", "guests", "LCordDoors$Guests;", true)
  | 2 => ("CordDoors$State", "accounts", "LCordDoors$Accounts;", true)
  | _ => ("CordDoors$State", "openDoors", "I", false)
def tyX5 : Nat → FieldType := fun k => match k with
  | 0 => .object "CordDoors$Loom"
  | 1 => .object "CordDoors$Guests"
  | 2 => .object "CordDoors$Accounts"
  | _ => .int
abbrev wsX50 : List Cond := u_ws RX5 TX5 4
theorem nmX5 : ∀ a, a < 4 → ∀ b, b < 4 → a ≠ b → (TX5 a).2.1 ≠ (TX5 b).2.1 := by decide +kernel
theorem tyX5_ok : ∀ k, k < 4 → parseFieldDescriptor (TX5 k).2.2.1 = some (tyX5 k) := by decide +kernel
abbrev cX5_init : ByteArray := prog_7_method_1_code
def yX5_init : MethodName := ⟨RX5, "<init>", "()V"⟩
abbrev cX5_copy : ByteArray := prog_7_method_2_code
def yX5_copy : MethodName := ⟨RX5, "copy", "(LCordDoors$State;)V"⟩
abbrev cX5_isOpen : ByteArray := prog_7_method_3_code
def yX5_isOpen : MethodName := ⟨RX5, "isOpen", "(I)Z"⟩
abbrev cX5_shutDoors : ByteArray := prog_7_method_4_code
def yX5_shutDoors : MethodName := ⟨RX5, "shutDoors", "()I"⟩
abbrev cX5_reasonNotToOpen : ByteArray := prog_7_method_5_code
def yX5_reasonNotToOpen : MethodName := ⟨RX5, "reasonNotToOpen", "(I)I"⟩
abbrev cX5_reasonNotToShut : ByteArray := prog_7_method_6_code
def yX5_reasonNotToShut : MethodName := ⟨RX5, "reasonNotToShut", "(I)I"⟩
abbrev cX5_isAtDoor : ByteArray := prog_7_method_7_code
def yX5_isAtDoor : MethodName := ⟨RX5, "isAtDoor", "(II)Z"⟩
abbrev cX5_reasonNotToOpenAsGuest : ByteArray := prog_7_method_8_code
def yX5_reasonNotToOpenAsGuest : MethodName := ⟨RX5, "reasonNotToOpenAsGuest", "(II)I"⟩
abbrev cX5_reasonNotToUse : ByteArray := prog_7_method_9_code
def yX5_reasonNotToUse : MethodName := ⟨RX5, "reasonNotToUse", "(II)I"⟩
abbrev cX5_howManyCouldOpen : ByteArray := prog_7_method_10_code
def yX5_howManyCouldOpen : MethodName := ⟨RX5, "howManyCouldOpen", "(I)I"⟩
abbrev cX5_servantOpens : ByteArray := prog_7_method_11_code
def yX5_servantOpens : MethodName := ⟨RX5, "servantOpens", "(I)I"⟩
abbrev cX5_servantShuts : ByteArray := prog_7_method_12_code
def yX5_servantShuts : MethodName := ⟨RX5, "servantShuts", "(I)I"⟩
abbrev cX5_opensAsGuest : ByteArray := prog_7_method_13_code
def yX5_opensAsGuest : MethodName := ⟨RX5, "opensAsGuest", "(II)I"⟩
abbrev cX5_shutsAsGuest : ByteArray := prog_7_method_14_code
def yX5_shutsAsGuest : MethodName := ⟨RX5, "shutsAsGuest", "(II)I"⟩
abbrev cX5_walksThrough : ByteArray := prog_7_method_15_code
def yX5_walksThrough : MethodName := ⟨RX5, "walksThrough", "(II)I"⟩
abbrev cX5_laysCord : ByteArray := prog_7_method_16_code
def yX5_laysCord : MethodName := ⟨RX5, "laysCord", "(IZI)I"⟩
abbrev cX5_opensUnless : ByteArray := prog_7_method_17_code
def yX5_opensUnless : MethodName := ⟨RX5, "opensUnless", "(II)I"⟩
abbrev cX5_shutsUnless : ByteArray := prog_7_method_18_code
def yX5_shutsUnless : MethodName := ⟨RX5, "shutsUnless", "(II)I"⟩
def RX6 : String := "CordDoors$Stop"
def TX6 : u_T := fun k => match k with
  | 0 => ("CordDoors$Stop", "reason", "I", false)
  | 1 => ("CordDoors$Stop", "number", "I", false)
  | _ => ("CordDoors$Stop", "place", "I", false)
def tyX6 : Nat → FieldType := fun k => match k with
  | 0 => .int
  | 1 => .int
  | _ => .int
abbrev wsX60 : List Cond := u_ws RX6 TX6 3
theorem nmX6 : ∀ a, a < 3 → ∀ b, b < 3 → a ≠ b → (TX6 a).2.1 ≠ (TX6 b).2.1 := by decide +kernel
theorem tyX6_ok : ∀ k, k < 3 → parseFieldDescriptor (TX6 k).2.2.1 = some (tyX6 k) := by decide +kernel
abbrev cX6_init : ByteArray := prog_8_method_1_code
def yX6_init : MethodName := ⟨RX6, "<init>", "()V"⟩
abbrev cX6_forget : ByteArray := prog_8_method_2_code
def yX6_forget : MethodName := ⟨RX6, "forget", "()V"⟩
abbrev cX6_remember : ByteArray := prog_8_method_3_code
def yX6_remember : MethodName := ⟨RX6, "remember", "(III)V"⟩
abbrev cX6_happened : ByteArray := prog_8_method_4_code
def yX6_happened : MethodName := ⟨RX6, "happened", "()Z"⟩
def RX7 : String := "CordDoors$Ways"
def TX7 : u_T := fun k => match k with
  | 0 => ("CordDoors$Ways", "fewest", "[I", true)
  | 1 => ("CordDoors$Ways", "line", "[I", true)
  | _ => ("CordDoors$Ways", "inLine", "I", false)
def tyX7 : Nat → FieldType := fun k => match k with
  | 0 => .array .int
  | 1 => .array .int
  | _ => .int
abbrev wsX70 : List Cond := u_ws RX7 TX7 3
theorem nmX7 : ∀ a, a < 3 → ∀ b, b < 3 → a ≠ b → (TX7 a).2.1 ≠ (TX7 b).2.1 := by decide +kernel
theorem tyX7_ok : ∀ k, k < 3 → parseFieldDescriptor (TX7 k).2.2.1 = some (tyX7 k) := by decide +kernel
abbrev cX7_init : ByteArray := prog_9_method_1_code
def yX7_init : MethodName := ⟨RX7, "<init>", "()V"⟩
abbrev cX7_fromNowOn : ByteArray := prog_9_method_2_code
def yX7_fromNowOn : MethodName := ⟨RX7, "fromNowOn", "(LCordDoors$Loom;III)I"⟩
abbrev cX7_goOnFrom : ByteArray := prog_9_method_3_code
def yX7_goOnFrom : MethodName := ⟨RX7, "goOnFrom", "(LCordDoors$Loom;II)V"⟩
abbrev cX7_reach : ByteArray := prog_9_method_4_code
def yX7_reach : MethodName := ⟨RX7, "reach", "(II)V"⟩
abbrev cX7_fromHallBack : ByteArray := prog_9_method_5_code
def yX7_fromHallBack : MethodName := ⟨RX7, "fromHallBack", "(LCordDoors$Loom;III)I"⟩
abbrev cX7_lineUpSets : ByteArray := prog_9_method_6_code
def yX7_lineUpSets : MethodName := ⟨RX7, "lineUpSets", "(LCordDoors$Loom;I)V"⟩
abbrev cX7_lessenAll : ByteArray := prog_9_method_7_code
def yX7_lessenAll : MethodName := ⟨RX7, "lessenAll", "(LCordDoors$Loom;II)I"⟩
abbrev cX7_lessen : ByteArray := prog_9_method_8_code
def yX7_lessen : MethodName := ⟨RX7, "lessen", "(II)I"⟩
def RX8 : String := "CordDoors"
def TX8 : u_T := fun k => match k with
  | 0 => ("CordDoors", "now", "LCordDoors$State;", true)
  | 1 => ("CordDoors", "history", "LCordDoors$History;", true)
  | 2 => ("CordDoors", "snapshot", "LCordDoors$State;", true)
  | 3 => ("CordDoors", "snapshotTaken", "Z", false)
  | 4 => ("CordDoors", "pad", "LCordDoors$Pad;", true)
  | 5 => ("CordDoors", "stop", "LCordDoors$Stop;", true)
  | _ => ("CordDoors", "ways", "LCordDoors$Ways;", true)
def tyX8 : Nat → FieldType := fun k => match k with
  | 0 => .object "CordDoors$State"
  | 1 => .object "CordDoors$History"
  | 2 => .object "CordDoors$State"
  | 3 => .boolean
  | 4 => .object "CordDoors$Pad"
  | 5 => .object "CordDoors$Stop"
  | _ => .object "CordDoors$Ways"
abbrev wsX80 : List Cond := u_ws RX8 TX8 7
theorem nmX8 : ∀ a, a < 7 → ∀ b, b < 7 → a ≠ b → (TX8 a).2.1 ≠ (TX8 b).2.1 := by decide +kernel
theorem tyX8_ok : ∀ k, k < 7 → parseFieldDescriptor (TX8 k).2.2.1 = some (tyX8 k) := by decide +kernel
abbrev cX8_init : ByteArray := prog_1_method_1_code
def yX8_init : MethodName := ⟨RX8, "<init>", "()V"⟩
abbrev cX8_open : ByteArray := prog_1_method_2_code
def yX8_open : MethodName := ⟨RX8, "open", "(I)I"⟩
abbrev cX8_shut : ByteArray := prog_1_method_3_code
def yX8_shut : MethodName := ⟨RX8, "shut", "(I)I"⟩
abbrev cX8_cord : ByteArray := prog_1_method_4_code
def yX8_cord : MethodName := ⟨RX8, "cord", "(IZI)I"⟩
abbrev cX8_join : ByteArray := prog_1_method_5_code
def yX8_join : MethodName := ⟨RX8, "join", "(III)I"⟩
abbrev cX8_keys : ByteArray := prog_1_method_6_code
def yX8_keys : MethodName := ⟨RX8, "keys", "(II)I"⟩
abbrev cX8_draft : ByteArray := prog_1_method_7_code
def yX8_draft : MethodName := ⟨RX8, "draft", "(I)I"⟩
abbrev cX8_guestOpens : ByteArray := prog_1_method_8_code
def yX8_guestOpens : MethodName := ⟨RX8, "guestOpens", "(II)I"⟩
abbrev cX8_guestShuts : ByteArray := prog_1_method_9_code
def yX8_guestShuts : MethodName := ⟨RX8, "guestShuts", "(II)I"⟩
abbrev cX8_walk : ByteArray := prog_1_method_10_code
def yX8_walk : MethodName := ⟨RX8, "walk", "(II)I"⟩
abbrev cX8_append : ByteArray := prog_1_method_11_code
def yX8_append : MethodName := ⟨RX8, "append", "(I)I"⟩
abbrev cX8_clear : ByteArray := prog_1_method_12_code
def yX8_clear : MethodName := ⟨RX8, "clear", "()I"⟩
abbrev cX8_fault : ByteArray := prog_1_method_13_code
def yX8_fault : MethodName := ⟨RX8, "fault", "()I"⟩
abbrev cX8_run : ByteArray := prog_1_method_14_code
def yX8_run : MethodName := ⟨RX8, "run", "()I"⟩
abbrev cX8_why : ByteArray := prog_1_method_15_code
def yX8_why : MethodName := ⟨RX8, "why", "(I)I"⟩
abbrev cX8_door : ByteArray := prog_1_method_16_code
def yX8_door : MethodName := ⟨RX8, "door", "(II)I"⟩
abbrev cX8_hall : ByteArray := prog_1_method_17_code
def yX8_hall : MethodName := ⟨RX8, "hall", "(II)I"⟩
abbrev cX8_guest : ByteArray := prog_1_method_18_code
def yX8_guest : MethodName := ⟨RX8, "guest", "(II)I"⟩
abbrev cX8_whyNot : ByteArray := prog_1_method_19_code
def yX8_whyNot : MethodName := ⟨RX8, "whyNot", "(I)I"⟩
abbrev cX8_together : ByteArray := prog_1_method_20_code
def yX8_together : MethodName := ⟨RX8, "together", "(I)I"⟩
abbrev cX8_can : ByteArray := prog_1_method_21_code
def yX8_can : MethodName := ⟨RX8, "can", "(I)I"⟩
abbrev cX8_deeds : ByteArray := prog_1_method_22_code
def yX8_deeds : MethodName := ⟨RX8, "deeds", "(III)I"⟩
abbrev cX8_count : ByteArray := prog_1_method_23_code
def yX8_count : MethodName := ⟨RX8, "count", "(I)I"⟩
abbrev cX8_tightness : ByteArray := prog_1_method_24_code
def yX8_tightness : MethodName := ⟨RX8, "tightness", "()D"⟩
abbrev cX8_ifOpened : ByteArray := prog_1_method_25_code
def yX8_ifOpened : MethodName := ⟨RX8, "ifOpened", "(II)I"⟩
abbrev cX8_undo : ByteArray := prog_1_method_26_code
def yX8_undo : MethodName := ⟨RX8, "undo", "()I"⟩
abbrev cX8_save : ByteArray := prog_1_method_27_code
def yX8_save : MethodName := ⟨RX8, "save", "()I"⟩
abbrev cX8_restore : ByteArray := prog_1_method_28_code
def yX8_restore : MethodName := ⟨RX8, "restore", "()I"⟩
abbrev cX8_isDoor : ByteArray := prog_1_method_29_code
def yX8_isDoor : MethodName := ⟨RX8, "isDoor", "(I)Z"⟩
abbrev cX8_isHall : ByteArray := prog_1_method_30_code
def yX8_isHall : MethodName := ⟨RX8, "isHall", "(I)Z"⟩
abbrev cX8_isGuest : ByteArray := prog_1_method_31_code
def yX8_isGuest : MethodName := ⟨RX8, "isGuest", "(I)Z"⟩
abbrev cX8_isSetOfDoors : ByteArray := prog_1_method_32_code
def yX8_isSetOfDoors : MethodName := ⟨RX8, "isSetOfDoors", "(I)Z"⟩
abbrev cX8_has : ByteArray := prog_1_method_33_code
def yX8_has : MethodName := ⟨RX8, "has", "(II)Z"⟩
abbrev cX8_without : ByteArray := prog_1_method_34_code
def yX8_without : MethodName := ⟨RX8, "without", "(II)I"⟩
abbrev cX8_spot : ByteArray := prog_1_method_35_code
def yX8_spot : MethodName := ⟨RX8, "spot", "(II)I"⟩
abbrev cX8_doorOrNotFound : ByteArray := prog_1_method_36_code
def yX8_doorOrNotFound : MethodName := ⟨RX8, "doorOrNotFound", "(I)I"⟩
abbrev cX8_runDeedAt : ByteArray := prog_1_method_37_code
def yX8_runDeedAt : MethodName := ⟨RX8, "runDeedAt", "(I)I"⟩
abbrev cX8_mostOfAllSets : ByteArray := prog_1_method_38_code
def yX8_mostOfAllSets : MethodName := ⟨RX8, "mostOfAllSets", "()I"⟩
abbrev cX8_mostDoorByDoor : ByteArray := prog_1_method_39_code
def yX8_mostDoorByDoor : MethodName := ⟨RX8, "mostDoorByDoor", "(LCordDoors$Loom;II)I"⟩
def RX9 : String := "CordDoorsModel"
def TX9 : u_T := fun k => match k with
  | 0 => ("CordDoorsModel", "z", "[I", true)
  | 1 => ("CordDoorsModel", "spare", "[I", true)
  | 2 => ("CordDoorsModel", "past", "[I", true)
  | 3 => ("CordDoorsModel", "states", "I", false)
  | 4 => ("CordDoorsModel", "kept", "[I", true)
  | 5 => ("CordDoorsModel", "isKept", "Z", false)
  | 6 => ("CordDoorsModel", "pad", "[I", true)
  | 7 => ("CordDoorsModel", "typed", "I", false)
  | 8 => ("CordDoorsModel", "stopReason", "I", false)
  | 9 => ("CordDoorsModel", "stopNumber", "I", false)
  | 10 => ("CordDoorsModel", "stopAt", "I", false)
  | 11 => ("CordDoorsModel", "spot", "I", false)
  | 12 => ("CordDoorsModel", "told", "[I", true)
  | 13 => ("CordDoorsModel", "toldMany", "I", false)
  | 14 => ("CordDoorsModel", "fewest", "[I", true)
  | 15 => ("CordDoorsModel", "reached", "[I", true)
  | _ => ("CordDoorsModel", "reachedMany", "I", false)
def tyX9 : Nat → FieldType := fun k => match k with
  | 0 => .array .int
  | 1 => .array .int
  | 2 => .array .int
  | 3 => .int
  | 4 => .array .int
  | 5 => .boolean
  | 6 => .array .int
  | 7 => .int
  | 8 => .int
  | 9 => .int
  | 10 => .int
  | 11 => .int
  | 12 => .array .int
  | 13 => .int
  | 14 => .array .int
  | 15 => .array .int
  | _ => .int
abbrev wsX90 : List Cond := u_ws RX9 TX9 17
theorem nmX9 : ∀ a, a < 17 → ∀ b, b < 17 → a ≠ b → (TX9 a).2.1 ≠ (TX9 b).2.1 := by decide +kernel
theorem tyX9_ok : ∀ k, k < 17 → parseFieldDescriptor (TX9 k).2.2.1 = some (tyX9 k) := by decide +kernel
abbrev cX9_init : ByteArray := prog_11_method_1_code
def yX9_init : MethodName := ⟨RX9, "<init>", "()V"⟩
abbrev cX9_in : ByteArray := prog_11_method_2_code
def yX9_in : MethodName := ⟨RX9, "in", "(III)Z"⟩
abbrev cX9_isDoor : ByteArray := prog_11_method_3_code
def yX9_isDoor : MethodName := ⟨RX9, "isDoor", "(I)Z"⟩
abbrev cX9_isHall : ByteArray := prog_11_method_4_code
def yX9_isHall : MethodName := ⟨RX9, "isHall", "(I)Z"⟩
abbrev cX9_isGuest : ByteArray := prog_11_method_5_code
def yX9_isGuest : MethodName := ⟨RX9, "isGuest", "(I)Z"⟩
abbrev cX9_of : ByteArray := prog_11_method_6_code
def yX9_of : MethodName := ⟨RX9, "of", "(II)I"⟩
abbrev cX9_lay : ByteArray := prog_11_method_7_code
def yX9_lay : MethodName := ⟨RX9, "lay", "(III)V"⟩
abbrev cX9_ofGuest : ByteArray := prog_11_method_8_code
def yX9_ofGuest : MethodName := ⟨RX9, "ofGuest", "(II)I"⟩
abbrev cX9_isOpen : ByteArray := prog_11_method_9_code
def yX9_isOpen : MethodName := ⟨RX9, "isOpen", "(I)Z"⟩
abbrev cX9_joins : ByteArray := prog_11_method_10_code
def yX9_joins : MethodName := ⟨RX9, "joins", "(II)Z"⟩
abbrev cX9_goesTo : ByteArray := prog_11_method_11_code
def yX9_goesTo : MethodName := ⟨RX9, "goesTo", "(II)Z"⟩
abbrev cX9_copyState : ByteArray := prog_11_method_12_code
def yX9_copyState : MethodName := ⟨RX9, "copyState", "([II[II)V"⟩
abbrev cX9_record : ByteArray := prog_11_method_13_code
def yX9_record : MethodName := ⟨RX9, "record", "()V"⟩
abbrev cX9_undo : ByteArray := prog_11_method_14_code
def yX9_undo : MethodName := ⟨RX9, "undo", "()I"⟩
abbrev cX9_openSet : ByteArray := prog_11_method_15_code
def yX9_openSet : MethodName := ⟨RX9, "openSet", "()I"⟩
abbrev cX9_save : ByteArray := prog_11_method_16_code
def yX9_save : MethodName := ⟨RX9, "save", "()I"⟩
abbrev cX9_restore : ByteArray := prog_11_method_17_code
def yX9_restore : MethodName := ⟨RX9, "restore", "()I"⟩
abbrev cX9_cordsTo : ByteArray := prog_11_method_18_code
def yX9_cordsTo : MethodName := ⟨RX9, "cordsTo", "(IZ)I"⟩
abbrev cX9_reason : ByteArray := prog_11_method_19_code
def yX9_reason : MethodName := ⟨RX9, "reason", "(I)I"⟩
abbrev cX9_openIn : ByteArray := prog_11_method_20_code
def yX9_openIn : MethodName := ⟨RX9, "openIn", "(I)I"⟩
abbrev cX9_shuts : ByteArray := prog_11_method_21_code
def yX9_shuts : MethodName := ⟨RX9, "shuts", "(II)V"⟩
abbrev cX9_lowestIn : ByteArray := prog_11_method_22_code
def yX9_lowestIn : MethodName := ⟨RX9, "lowestIn", "(II)I"⟩
abbrev cX9_opens : ByteArray := prog_11_method_23_code
def yX9_opens : MethodName := ⟨RX9, "opens", "(I)I"⟩
abbrev cX9_refuse : ByteArray := prog_11_method_24_code
def yX9_refuse : MethodName := ⟨RX9, "refuse", "(I)I"⟩
abbrev cX9_openNow : ByteArray := prog_11_method_25_code
def yX9_openNow : MethodName := ⟨RX9, "openNow", "(I)I"⟩
abbrev cX9_shutNow : ByteArray := prog_11_method_26_code
def yX9_shutNow : MethodName := ⟨RX9, "shutNow", "(I)I"⟩
abbrev cX9_isAt : ByteArray := prog_11_method_27_code
def yX9_isAt : MethodName := ⟨RX9, "isAt", "(II)Z"⟩
abbrev cX9_hasKey : ByteArray := prog_11_method_28_code
def yX9_hasKey : MethodName := ⟨RX9, "hasKey", "(II)Z"⟩
abbrev cX9_guestOpensNow : ByteArray := prog_11_method_29_code
def yX9_guestOpensNow : MethodName := ⟨RX9, "guestOpensNow", "(II)I"⟩
abbrev cX9_guestShutsNow : ByteArray := prog_11_method_30_code
def yX9_guestShutsNow : MethodName := ⟨RX9, "guestShutsNow", "(II)I"⟩
abbrev cX9_across : ByteArray := prog_11_method_31_code
def yX9_across : MethodName := ⟨RX9, "across", "(II)I"⟩
abbrev cX9_walkNow : ByteArray := prog_11_method_32_code
def yX9_walkNow : MethodName := ⟨RX9, "walkNow", "(II)I"⟩
abbrev cX9_open : ByteArray := prog_11_method_33_code
def yX9_open : MethodName := ⟨RX9, "open", "(I)I"⟩
abbrev cX9_shut : ByteArray := prog_11_method_34_code
def yX9_shut : MethodName := ⟨RX9, "shut", "(I)I"⟩
abbrev cX9_guestOpens : ByteArray := prog_11_method_35_code
def yX9_guestOpens : MethodName := ⟨RX9, "guestOpens", "(II)I"⟩
abbrev cX9_guestShuts : ByteArray := prog_11_method_36_code
def yX9_guestShuts : MethodName := ⟨RX9, "guestShuts", "(II)I"⟩
abbrev cX9_walk : ByteArray := prog_11_method_37_code
def yX9_walk : MethodName := ⟨RX9, "walk", "(II)I"⟩
abbrev cX9_cord : ByteArray := prog_11_method_38_code
def yX9_cord : MethodName := ⟨RX9, "cord", "(IZI)I"⟩
abbrev cX9_lesserHall : ByteArray := prog_11_method_39_code
def yX9_lesserHall : MethodName := ⟨RX9, "lesserHall", "(I)I"⟩
abbrev cX9_greaterHall : ByteArray := prog_11_method_40_code
def yX9_greaterHall : MethodName := ⟨RX9, "greaterHall", "(I)I"⟩
abbrev cX9_join : ByteArray := prog_11_method_41_code
def yX9_join : MethodName := ⟨RX9, "join", "(III)I"⟩
abbrev cX9_keys : ByteArray := prog_11_method_42_code
def yX9_keys : MethodName := ⟨RX9, "keys", "(II)I"⟩
abbrev cX9_draft : ByteArray := prog_11_method_43_code
def yX9_draft : MethodName := ⟨RX9, "draft", "(I)I"⟩
abbrev cX9_append : ByteArray := prog_11_method_44_code
def yX9_append : MethodName := ⟨RX9, "append", "(I)I"⟩
abbrev cX9_clear : ByteArray := prog_11_method_45_code
def yX9_clear : MethodName := ⟨RX9, "clear", "()I"⟩
abbrev cX9_sees : ByteArray := prog_11_method_46_code
def yX9_sees : MethodName := ⟨RX9, "sees", "(II)Z"⟩
abbrev cX9_takes : ByteArray := prog_11_method_47_code
def yX9_takes : MethodName := ⟨RX9, "takes", "(I)Z"⟩
abbrev cX9_takesOne : ByteArray := prog_11_method_48_code
def yX9_takesOne : MethodName := ⟨RX9, "takesOne", "(II)I"⟩
abbrev cX9_readDeed : ByteArray := prog_11_method_49_code
def yX9_readDeed : MethodName := ⟨RX9, "readDeed", "()Z"⟩
abbrev cX9_readPad : ByteArray := prog_11_method_50_code
def yX9_readPad : MethodName := ⟨RX9, "readPad", "()Z"⟩
abbrev cX9_fault : ByteArray := prog_11_method_51_code
def yX9_fault : MethodName := ⟨RX9, "fault", "()I"⟩
abbrev cX9_doDeed : ByteArray := prog_11_method_52_code
def yX9_doDeed : MethodName := ⟨RX9, "doDeed", "(I)I"⟩
abbrev cX9_run : ByteArray := prog_11_method_53_code
def yX9_run : MethodName := ⟨RX9, "run", "()I"⟩
abbrev cX9_why : ByteArray := prog_11_method_54_code
def yX9_why : MethodName := ⟨RX9, "why", "(I)I"⟩
abbrev cX9_door : ByteArray := prog_11_method_55_code
def yX9_door : MethodName := ⟨RX9, "door", "(II)I"⟩
abbrev cX9_doorsOf : ByteArray := prog_11_method_56_code
def yX9_doorsOf : MethodName := ⟨RX9, "doorsOf", "(I)I"⟩
abbrev cX9_guestsIn : ByteArray := prog_11_method_57_code
def yX9_guestsIn : MethodName := ⟨RX9, "guestsIn", "(I)I"⟩
abbrev cX9_hangs : ByteArray := prog_11_method_58_code
def yX9_hangs : MethodName := ⟨RX9, "hangs", "(I)I"⟩
abbrev cX9_size : ByteArray := prog_11_method_59_code
def yX9_size : MethodName := ⟨RX9, "size", "(I)I"⟩
abbrev cX9_hall : ByteArray := prog_11_method_60_code
def yX9_hall : MethodName := ⟨RX9, "hall", "(II)I"⟩
abbrev cX9_canOpen : ByteArray := prog_11_method_61_code
def yX9_canOpen : MethodName := ⟨RX9, "canOpen", "(I)I"⟩
abbrev cX9_guest : ByteArray := prog_11_method_62_code
def yX9_guest : MethodName := ⟨RX9, "guest", "(II)I"⟩
abbrev cX9_whyNot : ByteArray := prog_11_method_63_code
def yX9_whyNot : MethodName := ⟨RX9, "whyNot", "(I)I"⟩
abbrev cX9_canBe : ByteArray := prog_11_method_64_code
def yX9_canBe : MethodName := ⟨RX9, "canBe", "(I)Z"⟩
abbrev cX9_can : ByteArray := prog_11_method_65_code
def yX9_can : MethodName := ⟨RX9, "can", "(I)I"⟩
abbrev cX9_together : ByteArray := prog_11_method_66_code
def yX9_together : MethodName := ⟨RX9, "together", "(I)I"⟩
abbrev cX9_laySet : ByteArray := prog_11_method_67_code
def yX9_laySet : MethodName := ⟨RX9, "laySet", "(I)V"⟩
abbrev cX9_reach : ByteArray := prog_11_method_68_code
def yX9_reach : MethodName := ⟨RX9, "reach", "(II)V"⟩
abbrev cX9_goOn : ByteArray := prog_11_method_69_code
def yX9_goOn : MethodName := ⟨RX9, "goOn", "(II)V"⟩
abbrev cX9_deeds : ByteArray := prog_11_method_70_code
def yX9_deeds : MethodName := ⟨RX9, "deeds", "(III)I"⟩
abbrev cX9_cords : ByteArray := prog_11_method_71_code
def yX9_cords : MethodName := ⟨RX9, "cords", "(Z)I"⟩
abbrev cX9_held : ByteArray := prog_11_method_72_code
def yX9_held : MethodName := ⟨RX9, "held", "()I"⟩
abbrev cX9_pairsOfHalls : ByteArray := prog_11_method_73_code
def yX9_pairsOfHalls : MethodName := ⟨RX9, "pairsOfHalls", "()I"⟩
abbrev cX9_pairsOfDoors : ByteArray := prog_11_method_74_code
def yX9_pairsOfDoors : MethodName := ⟨RX9, "pairsOfDoors", "()I"⟩
abbrev cX9_count : ByteArray := prog_11_method_75_code
def yX9_count : MethodName := ⟨RX9, "count", "(I)I"⟩
abbrev cX9_tightness : ByteArray := prog_11_method_76_code
def yX9_tightness : MethodName := ⟨RX9, "tightness", "()D"⟩
abbrev cX9_ifOpened : ByteArray := prog_11_method_77_code
def yX9_ifOpened : MethodName := ⟨RX9, "ifOpened", "(II)I"⟩
def RJ6 : String := "java/lang/Integer"
def TJ6 : u_T := fun k => match k with
  | _ => ("", "", "", false)
def tyJ6 : Nat → FieldType := fun k => match k with
  | _ => .int
abbrev wsJ60 : List Cond := u_ws RJ6 TJ6 0
theorem nmJ6 : ∀ a, a < 0 → ∀ b, b < 0 → a ≠ b → (TJ6 a).2.1 ≠ (TJ6 b).2.1 := by decide +kernel
theorem tyJ6_ok : ∀ k, k < 0 → parseFieldDescriptor (TJ6 k).2.2.1 = some (tyJ6 k) := by decide +kernel
abbrev cJ6_bitCount_0f7a4 : ByteArray := prog_12_method_49_code
def yJ6_bitCount_0f7a4 : MethodName := ⟨RJ6, "bitCount", "(I)I"⟩
def RJ9 : String := "java/lang/Math"
def TJ9 : u_T := fun k => match k with
  | _ => ("", "", "", false)
def tyJ9 : Nat → FieldType := fun k => match k with
  | _ => .int
abbrev wsJ90 : List Cond := u_ws RJ9 TJ9 0
theorem nmJ9 : ∀ a, a < 0 → ∀ b, b < 0 → a ≠ b → (TJ9 a).2.1 ≠ (TJ9 b).2.1 := by decide +kernel
theorem tyJ9_ok : ∀ k, k < 0 → parseFieldDescriptor (TJ9 k).2.2.1 = some (tyJ9 k) := by decide +kernel
abbrev cJ9_max_7cf53 : ByteArray := prog_13_method_65_code
def yJ9_max_7cf53 : MethodName := ⟨RJ9, "max", "(II)I"⟩
abbrev cJ9_min_7cf53 : ByteArray := prog_13_method_69_code
def yJ9_min_7cf53 : MethodName := ⟨RJ9, "min", "(II)I"⟩
def RJ10 : String := "java/lang/System"
def TJ10 : u_T := fun k => match k with
  | _ => ("", "", "", false)
def tyJ10 : Nat → FieldType := fun k => match k with
  | _ => .int
abbrev wsJ100 : List Cond := u_ws RJ10 TJ10 0
theorem nmJ10 : ∀ a, a < 0 → ∀ b, b < 0 → a ≠ b → (TJ10 a).2.1 ≠ (TJ10 b).2.1 := by decide +kernel
theorem tyJ10_ok : ∀ k, k < 0 → parseFieldDescriptor (TJ10 k).2.2.1 = some (tyJ10 k) := by decide +kernel
def RJ7 : String := "java/util/Arrays"
def TJ7 : u_T := fun k => match k with
  | _ => ("", "", "", false)
def tyJ7 : Nat → FieldType := fun k => match k with
  | _ => .int
abbrev wsJ70 : List Cond := u_ws RJ7 TJ7 0
theorem nmJ7 : ∀ a, a < 0 → ∀ b, b < 0 → a ≠ b → (TJ7 a).2.1 ≠ (TJ7 b).2.1 := by decide +kernel
theorem tyJ7_ok : ∀ k, k < 0 → parseFieldDescriptor (TJ7 k).2.2.1 = some (tyJ7 k) := by decide +kernel
abbrev cJ7_fill_53178 : ByteArray := prog_15_method_103_code
def yJ7_fill_53178 : MethodName := ⟨RJ7, "fill", "([II)V"⟩
def RL : String := "CordDoorsLaw"
abbrev cL_law : ByteArray := code
def yL_law : MethodName := ⟨RL, "law", "([I)Z"⟩
abbrev vwCl : List vw_C := [(RX0, TX0, 7), (RX1, TX1, 3), (RX2, TX2, 3), (RX3, TX3, 6), (RX4, TX4, 2), (RX5, TX5, 4), (RX6, TX6, 3), (RX7, TX7, 3), (RX8, TX8, 7), (RX9, TX9, 17)]
end
section
theorem va_P.perm {D : va_G} {cl : List vw_C} {w1 w2 : va_W} {H : Heap} (h : w1.Perm w2) (hP : va_P D cl w1 H) : va_P D cl w2 H := by
  intro k q hk
  obtain ⟨i, hi⟩ := List.getElem?_of_mem (h.symm.mem_iff.mp (List.mem_of_getElem? hk))
  exact hP i q hi
theorem va_P.left {D : va_G} {cl : List vw_C} {w1 w2 : va_W} {H : Heap} (hP : va_P D cl (w1 ++ w2) H) : va_P D cl w1 H := by
  intro k q hk
  obtain ⟨i, hi⟩ := List.getElem?_of_mem (List.mem_append_left w2 (List.mem_of_getElem? hk))
  exact hP i q hi
theorem va_P.right {D : va_G} {cl : List vw_C} {w1 w2 : va_W} {H : Heap} (hP : va_P D cl (w1 ++ w2) H) : va_P D cl w2 H := by
  intro k q hk
  obtain ⟨i, hi⟩ := List.getElem?_of_mem (List.mem_append_right w1 (List.mem_of_getElem? hk))
  exact hP i q hi
/-- the addresses are apart: as a list without doubles -/
theorem va_D.iff {A : Nat → Prop} {ws : va_W} : va_D A ws ↔ (ws.map (fun q => q.1)).Nodup ∧ ∀ q ∈ ws, A q.1 := by
  constructor
  · rintro ⟨h1, h2⟩
    refine ⟨?_, fun q hq => ?_⟩
    · show List.Pairwise _ _
      rw [List.pairwise_iff_getElem]
      intro i j hi hj hij he
      rw [List.length_map] at hi hj
      rw [List.getElem_map, List.getElem_map] at he
      have := h1 i j ws[i] ws[j] (List.getElem?_eq_getElem hi) (List.getElem?_eq_getElem hj) he
      omega
    · obtain ⟨i, hi⟩ := List.getElem?_of_mem hq
      exact h2 i q hi
  · rintro ⟨h1, h2⟩
    refine ⟨fun i j x y hi hj hxy => ?_, fun k q hk => h2 q (List.mem_of_getElem? hk)⟩
    have h1 : List.Pairwise _ _ := h1
    rw [List.pairwise_iff_getElem] at h1
    obtain ⟨li, ei⟩ := List.getElem?_eq_some_iff.mp hi
    obtain ⟨lj, ej⟩ := List.getElem?_eq_some_iff.mp hj
    rcases Nat.lt_trichotomy i j with h | h | h
    · exact absurd (by rw [List.getElem_map, List.getElem_map, ei, ej]; exact hxy) (h1 i j (by rw [List.length_map]; exact li) (by rw [List.length_map]; exact lj) h)
    · exact h
    · exact absurd (by rw [List.getElem_map, List.getElem_map, ei, ej]; exact hxy.symm) (h1 j i (by rw [List.length_map]; exact lj) (by rw [List.length_map]; exact li) h)
theorem va_D.perm {A : Nat → Prop} {w1 w2 : va_W} (h : w1.Perm w2) (hD : va_D A w1) : va_D A w2 := by
  rw [va_D.iff] at hD ⊢
  exact ⟨(h.map _).nodup_iff.mp hD.1, fun q hq => hD.2 q (h.symm.mem_iff.mp hq)⟩
theorem va_D.left {A : Nat → Prop} {w1 w2 : va_W} (hD : va_D A (w1 ++ w2)) : va_D A w1 := by
  rw [va_D.iff] at hD ⊢
  rw [List.map_append] at hD
  exact ⟨(List.nodup_append.mp hD.1).1, fun q hq => hD.2 q (List.mem_append_left _ hq)⟩
theorem va_D.right {A : Nat → Prop} {w1 w2 : va_W} (hD : va_D A (w1 ++ w2)) : va_D A w2 := by
  rw [va_D.iff] at hD ⊢
  rw [List.map_append] at hD
  exact ⟨(List.nodup_append.mp hD.1).2.1, fun q hq => hD.2 q (List.mem_append_right _ hq)⟩
theorem va_D.apart {A : Nat → Prop} {w1 w2 : va_W} {i j a : Nat} {x : va_E} {q : Nat × va_E} (hD : va_D A (w1 ++ w2)) (h1 : w1[i]? = some (a, x)) (h2 : w2[j]? = some q) (h3 : a = q.1) : False := by
  have li := (List.getElem?_eq_some_iff.mp h1).1
  have := hD.1 i (w1.length + j) (a, x) q (by rw [List.getElem?_append_left li]; exact h1) (by rw [List.getElem?_append_right (by omega)]; rw [show w1.length + j - w1.length = j by omega]; exact h2) h3
  omega
/-- the good words of the tables -/
def ub : List Cond := lw_tbl.filter goodWord
theorem ub_mem {w : Cond} (i : Nat) (h : lw_tbl[i]? = some w) (hg : goodWord w = true) : w ∈ ub := List.mem_filter.mpr ⟨List.mem_of_getElem? h, hg⟩
theorem ub_good {ws : List Cond} (h : ∀ w ∈ ws, w ∈ ub) : GoodIn ub ws := fun w hw => ⟨h w hw, good_of_word (List.mem_filter.mp (h w hw)).2⟩
theorem ub_cons {c : Cond} (h : c ∈ ub) : GoodIn ub (c :: ub) := ub_good (fun w hw => (List.mem_cons.mp hw).elim (fun e => e ▸ h) id)
def isNest : Cond → Bool
  | .fieldLinkNest .. => true
  | .methodLinkNest .. => true
  | _ => false
def nwL : List Cond := lw_tbl.filter isNest
/-- the words of nest mates -/
def NW (U : State) : Prop := (∀ w ∈ nwL, va_Nw w U) ∧ va_AO RX5 U
theorem nw_mem {w : Cond} (i : Nat) (h : lw_tbl[i]? = some w) (hg : isNest w = true) : w ∈ nwL := List.mem_filter.mpr ⟨List.mem_of_getElem? h, hg⟩
theorem NW.warm {s U : State} (hW : s.WarmedH U.vm) (h : NW s) : NW U := by
  refine ⟨?_, va_AO.moved hW.alike h.2⟩
  intro w hw
  have h1 := (List.mem_filter.mp hw).2
  have h2 := h.1 w hw
  cases w <;> first | exact va_Nw.warmF hW h2 | exact va_Nw.warmM hW h2 | (simp [isNest] at h1)
theorem NW.calling {U : State} {g : JFrame} {mk : MethodId} {a : Array Value} (h : NW U) : NW (U.calling g mk a) := by
  refine ⟨?_, va_AO.moved (u := U) (Vm.Alike.refl U.vm) h.2⟩
  intro w hw
  have h1 := (List.mem_filter.mp hw).2
  have h2 := h.1 w hw
  refine va_Nw.same (u := U) ?_ rfl h2
  cases w <;> first | rfl | (simp [isNest] at h1)
theorem NW.of {A : Array Value} {U : State} (h : ∀ w ∈ lw_tbl, w.before A U = true) : NW U := by
  refine ⟨?_, va_AO.of (h (.arrayOver (.object RX5)) (by decide +kernel))⟩
  intro w hw
  have h1 := (List.mem_filter.mp hw).2
  refine va_Nw.of ?_ (h w (List.mem_filter.mp hw).1)
  cases w <;> first | rfl | (simp [isNest] at h1)
abbrev GG : Type := va_G × ClassId × ClassId
abbrev GK (G : GG) (U : State) : Prop := va_K G.1 vwCl [(G.2.1, .int), (G.2.2, .object RX5)] U
/-- what a walk has at hand -/
abbrev Fx (p : Program) (m : MethodId) (c : Code) (cc : ByteArray) (nL : Nat) (s : State) (args : Array Value) (own : String) (meth : Method) (rt : Option FieldType) (G : GG) (A : Nat → Prop) : Prop :=
  CallFix p m c cc nL s args ub own ∧ meth.sig.returnType = rt ∧ meth.locks = false ∧ GK G s ∧ NW s ∧ ∀ q, s.heap.size ≤ q → A q
def V (p : Program) (l : Launch) (e : Env) (R : Room) (s : State) (m : MethodId) (args : Array Value) (below : List Frame) (meth : Method) (c : Code) (G : GG) (A : Nat → Prop) (nL k n : Nat) (Q : State → Prop) (ws : va_W) (pc : Nat) (lv : List (Nat × Value)) (st : List Value) : Prop :=
  ∀ (H : Heap) (locs : List Loc) (ls : Array Slot), va_P G.1 vwCl ws H → va_D A ws → va_S A s.heap H locs → lv_has ls nL lv → W p l e R s m args below meth c H locs k n Q (F0 m pc ls st)
/-- an end of a method -/
def EQ (G : GG) (C : va_W) (sz : Nat) (Pq : Option Value → va_W → Prop) : Array Value → State → Outcome → State → Prop := fun _ st oc t =>
  (∃ (v : Option Value) (w : va_W), oc = .returned v ∧ Pq v w ∧ va_P G.1 vwCl w t.heap ∧ GK G t ∧ va_D (va_A C sz) w) ∧ va_F (va_A C sz) st t
/-- a contract -/
def Con (l : Launch) (G : GG) (y : MethodName) (b : ByteArray) (nL : Nat) (rt : Option FieldType) (rm : Room) (av : List Value) (C : va_W) (Pq : Option Value → va_W → Prop) (mc ms : Nat) : Prop :=
  ∀ sz : Nat, Met l y (.code y b nL rt :: ub) rm (va_Pc av (fun U => U.heap.size = sz ∧ va_P G.1 vwCl C U.heap ∧ GK G U ∧ va_D (fun _ => True) C ∧ NW U)) (EQ G C sz Pq) mc ms (va_A C sz)
def PI {S : Type} (wf : S → va_W) (Q : Int32 → S → Prop) : Option Value → va_W → Prop := fun v w => ∃ (r : Int32) (u : S), v = some (.int r) ∧ w = wf u ∧ Q r u
def PB {S : Type} (wf : S → va_W) (Q : Int32 → S → Prop) : Option Value → va_W → Prop := fun v w => ∃ (r : Int32) (u : S), v = some (.int r) ∧ narrow .boolean (.int r) = .int r ∧ w = wf u ∧ Q r u
def PD {S : Type} (wf : S → va_W) (Q : UInt64 → S → Prop) : Option Value → va_W → Prop := fun v w => ∃ (r : UInt64) (u : S), v = some (.double r) ∧ w = wf u ∧ Q r u
def PV {S : Type} (wf : S → va_W) (Q : S → Prop) : Option Value → va_W → Prop := fun v w => ∃ (u : S), v = none ∧ w = wf u ∧ Q u
theorem pi {S : Type} {wf : S → va_W} {Q : Int32 → S → Prop} {P : Option Value → va_W → Prop} (h : ∀ r u, Q r u → P (some (.int r)) (wf u)) : ∀ v w, PI wf Q v w → P v w := by
  rintro v w ⟨r, u, rfl, rfl, hq⟩; exact h r u hq
theorem pb {S : Type} {wf : S → va_W} {Q : Int32 → S → Prop} {P : Option Value → va_W → Prop} (h : ∀ r u, narrow .boolean (.int r) = .int r → Q r u → P (some (.int r)) (wf u)) : ∀ v w, PB wf Q v w → P v w := by
  rintro v w ⟨r, u, rfl, hr, rfl, hq⟩; exact h r u hr hq
theorem pd {S : Type} {wf : S → va_W} {Q : UInt64 → S → Prop} {P : Option Value → va_W → Prop} (h : ∀ r u, Q r u → P (some (.double r)) (wf u)) : ∀ v w, PD wf Q v w → P v w := by
  rintro v w ⟨r, u, rfl, rfl, hq⟩; exact h r u hq
theorem pv {S : Type} {wf : S → va_W} {Q : S → Prop} {P : Option Value → va_W → Prop} (h : ∀ u, Q u → P none (wf u)) : ∀ v w, PV wf Q v w → P v w := by
  rintro v w ⟨u, rfl, rfl, hq⟩; exact h u hq
/-- what the tables say of a class's field, by a link -/
abbrev GF (own : String) (idx ci k : Nat) : Prop := ∃ (C : String) (T : u_T) (N : Nat), vwCl[ci]? = some (C, T, N) ∧ (∀ w ∈ u_ws C T N, w ∈ ub) ∧ k < N ∧ Cond.fieldLink own idx (T k).1 (T k).2.1 (T k).2.2.1 ∈ ub
abbrev GFN (own : String) (idx ci k : Nat) : Prop := ∃ (C : String) (T : u_T) (N : Nat) (host : String), vwCl[ci]? = some (C, T, N) ∧ (∀ w ∈ u_ws C T N, w ∈ ub) ∧ k < N ∧ Cond.fieldLinkNest own idx (T k).1 (T k).2.1 (T k).2.2.1 host ∈ nwL
/-- and to write it -/
abbrev PFc (ci k : Nat) (fin : Bool) (ty : FieldType) : Prop := ∃ (C : String) (T : u_T) (N : Nat) (ty0 : Nat → FieldType), vwCl[ci]? = some (C, T, N) ∧ (∀ j, j < N → parseFieldDescriptor (T j).2.2.1 = some (ty0 j)) ∧ (∀ a, a < N → ∀ b, b < N → a ≠ b → (T a).2.1 ≠ (T b).2.1) ∧ (T k).2.2.2 = fin ∧ parseFieldDescriptor (T k).2.2.1 = some ty ∧ (T k).1 = C
/-- a callee's words -/
abbrev MF (y : MethodName) (b : ByteArray) (nL : Nat) (rt : Option FieldType) (n : Nat) : Prop := Cond.code y b nL rt ∈ ub ∧ Cond.initialized y.cls ∈ ub ∧ (y.cls ≠ "java/lang/invoke/MethodHandle" ∧ y.cls ≠ "java/lang/invoke/VarHandle" ∧ (parseMethodDescriptor y.desc).map (fun d => d.parameters.length) = some n)
/-- how a callee's cells lie in the caller's world -/
def FrM (ws C Rs : va_W) (wf : va_W → va_W) : Prop := ws.Perm (C ++ Rs) ∧ ∀ w : va_W, (w ++ Rs).Perm (wf w)
theorem frW (C : va_W) : FrM C C [] (fun w => w) := ⟨by rw [List.append_nil], fun w => by rw [List.append_nil]⟩
theorem frM (L2 C R2 : va_W) : FrM (L2 ++ (C ++ R2)) C (L2 ++ R2) (fun w => L2 ++ (w ++ R2)) := ⟨List.perm_append_comm_assoc L2 C R2, fun w => (List.perm_append_comm_assoc L2 w R2).symm⟩
theorem frP {ws C Rs : va_W} (h : ws.Perm (C ++ Rs)) : FrM ws C Rs (fun w => w ++ Rs) := ⟨h, fun w => List.Perm.refl _⟩
/-- pieces of a world in another order -/
theorem gperm (gs : List va_W) (is : List Nat) (h : is.isPerm (List.range gs.length) = true) : gs.flatten.Perm ((is.map (fun i => gs.getD i [])).flatten) := by
  refine List.Perm.flatten ?_
  have h1 : (List.range gs.length).map (fun i => gs.getD i []) = gs := by
    apply List.ext_getElem
    · simp
    · intro i h1 h2
      simp [h2]
  have h2 := (List.isPerm_iff.mp h).map (fun i => gs.getD i [])
  rw [h1] at h2
  exact h2.symm
section VRows
variable {p : Program} {l : Launch} {e : Env} {R : Room} {s : State} {m : MethodId} {args : Array Value} {below : List Frame} {meth : Method} {c : Code} {G : GG} {A : Nat → Prop} {nL k n : Nat} {Q : State → Prop} {ws ws2 : va_W} {pc pc2 : Nat} {lv lv2 : List (Nat × Value)} {st : List Value} {cc : ByteArray} {own : String} {rt : Option FieldType}
theorem v_to (ws2 : va_W) (pc2 : Nat) (lv2 : List (Nat × Value)) (st st2 : List Value) (h1 : ws = ws2) (h2 : pc = pc2) (h3 : lv = lv2) (h4 : st = st2) (kk : V p l e R s m args below meth c G A nL k n Q ws2 pc2 lv2 st2) : V p l e R s m args below meth c G A nL k n Q ws pc lv st := by
  subst h1; subst h2; subst h3; subst h4; exact kk
theorem v_lv (lv2 : List (Nat × Value)) (ks : List Nat) (h : lv_pick lv ks = lv2) (kk : V p l e R s m args below meth c G A nL k n Q ws pc lv2 st) : V p l e R s m args below meth c G A nL k n Q ws pc lv st :=
  fun H locs ls hP hD hS hl => kk H locs ls hP hD hS (lv_sub hl ks h)
theorem v_widen {k2 n2 : Nat} (h1 : k ≤ k2) (h2 : n ≤ n2) (kk : V p l e R s m args below meth c G A nL k2 n2 Q ws pc lv st) : V p l e R s m args below meth c G A nL k n Q ws pc lv st :=
  fun H locs ls hP hD hS hl => W.widen h1 h2 (kk H locs ls hP hD hS hl)

theorem v_iload_n (S : Fx p m c cc nL s args own meth rt G A) {i : Fin 4} {j : Nat} {x : Int32} (k0 : Nat) (hdg : decode cc pc = .ok (.iload_n i, 1)) (hi : (i : Nat) = j) (hk : lv[k0]? = some (j, .int x)) (hp : pc + 1 = pc2) (kk : V p l e R s m args below meth c G A nL k n Q ws pc2 lv (.int x :: st)) : V p l e R s m args below meth c G A nL k n Q ws pc lv (st) := by
  subst hp; exact fun H locs ls hP hD hS hl => lv_iload_n S.1.1 S.1.2.1 hdg hi (lv_at hl k0 hk) (kk H locs ls hP hD hS hl)
theorem v_iload (S : Fx p m c cc nL s args own meth rt G A) {j : Nat} {x : Int32} (k0 : Nat) (hdg : decode cc pc = .ok (.iload j, 2)) (hk : lv[k0]? = some (j, .int x)) (hp : pc + 2 = pc2) (kk : V p l e R s m args below meth c G A nL k n Q ws pc2 lv (.int x :: st)) : V p l e R s m args below meth c G A nL k n Q ws pc lv (st) := by
  subst hp; exact fun H locs ls hP hD hS hl => lv_iload S.1.1 S.1.2.1 hdg (lv_at hl k0 hk) (kk H locs ls hP hD hS hl)
theorem v_aload_n (S : Fx p m c cc nL s args own meth rt G A) {i : Fin 4} {j : Nat} {x : Nat} (k0 : Nat) (hdg : decode cc pc = .ok (.aload_n i, 1)) (hi : (i : Nat) = j) (hk : lv[k0]? = some (j, .ref x)) (hp : pc + 1 = pc2) (kk : V p l e R s m args below meth c G A nL k n Q ws pc2 lv (.ref x :: st)) : V p l e R s m args below meth c G A nL k n Q ws pc lv (st) := by
  subst hp; exact fun H locs ls hP hD hS hl => lv_aload_n S.1.1 S.1.2.1 hdg hi (lv_at hl k0 hk) (kk H locs ls hP hD hS hl)
theorem v_aload (S : Fx p m c cc nL s args own meth rt G A) {j : Nat} {x : Nat} (k0 : Nat) (hdg : decode cc pc = .ok (.aload j, 2)) (hk : lv[k0]? = some (j, .ref x)) (hp : pc + 2 = pc2) (kk : V p l e R s m args below meth c G A nL k n Q ws pc2 lv (.ref x :: st)) : V p l e R s m args below meth c G A nL k n Q ws pc lv (st) := by
  subst hp; exact fun H locs ls hP hD hS hl => lv_aload S.1.1 S.1.2.1 hdg (lv_at hl k0 hk) (kk H locs ls hP hD hS hl)
theorem v_istore_n (S : Fx p m c cc nL s args own meth rt G A) {i : Fin 4} {j : Nat} {x : Int32} (hdg : decode cc pc = .ok (.istore_n i, 1)) (hi : (i : Nat) = j) (hn : j < nL) (ks : List Nat) (h2 : lv_pick ((j, Value.int x) :: lv.filter (fun q => !(q.1 == j) && !(q.1 + 1 == j && q.2.category == 2))) ks = lv2) (hp : pc + 1 = pc2) (kk : V p l e R s m args below meth c G A nL k n Q ws pc2 lv2 st) : V p l e R s m args below meth c G A nL k n Q ws pc lv (.int x :: st) := by
  subst hp; exact fun H locs ls hP hD hS hl => lv_istore_n S.1.1 S.1.2.1 hdg hi hl hn rfl (fun ls hl => kk H locs ls hP hD hS (lv_sub hl ks h2))
theorem v_istore (S : Fx p m c cc nL s args own meth rt G A) {j : Nat} {x : Int32} (hdg : decode cc pc = .ok (.istore j, 2))  (hn : j < nL) (ks : List Nat) (h2 : lv_pick ((j, Value.int x) :: lv.filter (fun q => !(q.1 == j) && !(q.1 + 1 == j && q.2.category == 2))) ks = lv2) (hp : pc + 2 = pc2) (kk : V p l e R s m args below meth c G A nL k n Q ws pc2 lv2 st) : V p l e R s m args below meth c G A nL k n Q ws pc lv (.int x :: st) := by
  subst hp; exact fun H locs ls hP hD hS hl => lv_istore S.1.1 S.1.2.1 hdg hl hn rfl (fun ls hl => kk H locs ls hP hD hS (lv_sub hl ks h2))
theorem v_astore_n (S : Fx p m c cc nL s args own meth rt G A) {i : Fin 4} {j : Nat} {x : Nat} (hdg : decode cc pc = .ok (.astore_n i, 1)) (hi : (i : Nat) = j) (hn : j < nL) (ks : List Nat) (h2 : lv_pick ((j, Value.ref x) :: lv.filter (fun q => !(q.1 == j) && !(q.1 + 1 == j && q.2.category == 2))) ks = lv2) (hp : pc + 1 = pc2) (kk : V p l e R s m args below meth c G A nL k n Q ws pc2 lv2 st) : V p l e R s m args below meth c G A nL k n Q ws pc lv (.ref x :: st) := by
  subst hp; exact fun H locs ls hP hD hS hl => lv_astore_n S.1.1 S.1.2.1 hdg hi hl hn rfl (fun ls hl => kk H locs ls hP hD hS (lv_sub hl ks h2))
theorem v_astore (S : Fx p m c cc nL s args own meth rt G A) {j : Nat} {x : Nat} (hdg : decode cc pc = .ok (.astore j, 2))  (hn : j < nL) (ks : List Nat) (h2 : lv_pick ((j, Value.ref x) :: lv.filter (fun q => !(q.1 == j) && !(q.1 + 1 == j && q.2.category == 2))) ks = lv2) (hp : pc + 2 = pc2) (kk : V p l e R s m args below meth c G A nL k n Q ws pc2 lv2 st) : V p l e R s m args below meth c G A nL k n Q ws pc lv (.ref x :: st) := by
  subst hp; exact fun H locs ls hP hD hS hl => lv_astore S.1.1 S.1.2.1 hdg hl hn rfl (fun ls hl => kk H locs ls hP hD hS (lv_sub hl ks h2))
theorem v_iinc (S : Fx p m c cc nL s args own meth rt G A) {j : Nat} {d : Int} {x v : Int32} (k0 : Nat) (hdg : decode cc pc = .ok (.iinc j d, 3)) (hk : lv[k0]? = some (j, .int x)) (hv : x + Int32.ofInt d = v) (hn : j < nL) (ks : List Nat) (h2 : lv_pick ((j, Value.int v) :: lv.filter (fun q => !(q.1 == j) && !(q.1 + 1 == j && q.2.category == 2))) ks = lv2) (hp : pc + 3 = pc2) (kk : V p l e R s m args below meth c G A nL k n Q ws pc2 lv2 st) : V p l e R s m args below meth c G A nL k n Q ws pc lv st := by
  subst hp; exact fun H locs ls hP hD hS hl => lv_iinc S.1.1 S.1.2.1 hdg hl hk hv hn rfl (fun ls hl => kk H locs ls hP hD hS (lv_sub hl ks h2))
theorem v_iconst (S : Fx p m c cc nL s args own meth rt G A) {d : Int} {v : Int32} (hdg : decode cc pc = .ok (.iconst d, 1)) (hv : Int32.ofInt d = v) (hp : pc + 1 = pc2) (kk : V p l e R s m args below meth c G A nL k n Q ws pc2 lv (.int v :: st)) : V p l e R s m args below meth c G A nL k n Q ws pc lv (st) := by
  subst hp; exact fun H locs ls hP hD hS hl => lv_iconst S.1.1 S.1.2.1 hdg hv (kk H locs ls hP hD hS hl)
theorem v_bipush (S : Fx p m c cc nL s args own meth rt G A) {d : Int} {v : Int32} (hdg : decode cc pc = .ok (.bipush d, 2)) (hv : (Int8.ofInt d).toInt32 = v) (hp : pc + 2 = pc2) (kk : V p l e R s m args below meth c G A nL k n Q ws pc2 lv (.int v :: st)) : V p l e R s m args below meth c G A nL k n Q ws pc lv (st) := by
  subst hp; exact fun H locs ls hP hD hS hl => lv_bipush S.1.1 S.1.2.1 hdg hv (kk H locs ls hP hD hS hl)
theorem v_sipush (S : Fx p m c cc nL s args own meth rt G A) {d : Int} {v : Int32} (hdg : decode cc pc = .ok (.sipush d, 3)) (hv : (Int16.ofInt d).toInt32 = v) (hp : pc + 3 = pc2) (kk : V p l e R s m args below meth c G A nL k n Q ws pc2 lv (.int v :: st)) : V p l e R s m args below meth c G A nL k n Q ws pc lv (st) := by
  subst hp; exact fun H locs ls hP hD hS hl => lv_sipush S.1.1 S.1.2.1 hdg hv (kk H locs ls hP hD hS hl)
theorem v_ldcw (S : Fx p m c cc nL s args own meth rt G A) {index : Nat} {v : Int32} (hc : Cond.constant own index v ∈ ub) (hdg : decode cc pc = .ok (.ldc_w index, 3)) (hp : pc + 3 = pc2) (kk : V p l e R s m args below meth c G A nL k n Q ws pc2 lv (.int v :: st)) : V p l e R s m args below meth c G A nL k n Q ws pc lv (st) := by
  subst hp; exact fun H locs ls hP hD hS hl => lv_ldcw S.1.1 S.1.2.1 S.1.2.2.2.1 (S.1.2.2.2.2 _ hc) hdg (kk H locs ls hP hD hS hl)
theorem v_iadd (S : Fx p m c cc nL s args own meth rt G A) {x y : Int32} (hdg : decode cc pc = .ok (.iadd, 1)) (hp : pc + 1 = pc2) (kk : V p l e R s m args below meth c G A nL k n Q ws pc2 lv (.int (x + y) :: st)) : V p l e R s m args below meth c G A nL k n Q ws pc lv (.int y :: .int x :: st) := by
  subst hp; exact fun H locs ls hP hD hS hl => lv_iadd S.1.1 S.1.2.1 hdg (kk H locs ls hP hD hS hl)
theorem v_isub (S : Fx p m c cc nL s args own meth rt G A) {x y : Int32} (hdg : decode cc pc = .ok (.isub, 1)) (hp : pc + 1 = pc2) (kk : V p l e R s m args below meth c G A nL k n Q ws pc2 lv (.int (x - y) :: st)) : V p l e R s m args below meth c G A nL k n Q ws pc lv (.int y :: .int x :: st) := by
  subst hp; exact fun H locs ls hP hD hS hl => lv_isub S.1.1 S.1.2.1 hdg (kk H locs ls hP hD hS hl)
theorem v_imul (S : Fx p m c cc nL s args own meth rt G A) {x y : Int32} (hdg : decode cc pc = .ok (.imul, 1)) (hp : pc + 1 = pc2) (kk : V p l e R s m args below meth c G A nL k n Q ws pc2 lv (.int (x * y) :: st)) : V p l e R s m args below meth c G A nL k n Q ws pc lv (.int y :: .int x :: st) := by
  subst hp; exact fun H locs ls hP hD hS hl => lv_imul S.1.1 S.1.2.1 hdg (kk H locs ls hP hD hS hl)
theorem v_iand (S : Fx p m c cc nL s args own meth rt G A) {x y : Int32} (hdg : decode cc pc = .ok (.iand, 1)) (hp : pc + 1 = pc2) (kk : V p l e R s m args below meth c G A nL k n Q ws pc2 lv (.int (x &&& y) :: st)) : V p l e R s m args below meth c G A nL k n Q ws pc lv (.int y :: .int x :: st) := by
  subst hp; exact fun H locs ls hP hD hS hl => lv_iand S.1.1 S.1.2.1 hdg (kk H locs ls hP hD hS hl)
theorem v_ior (S : Fx p m c cc nL s args own meth rt G A) {x y : Int32} (hdg : decode cc pc = .ok (.ior, 1)) (hp : pc + 1 = pc2) (kk : V p l e R s m args below meth c G A nL k n Q ws pc2 lv (.int (x ||| y) :: st)) : V p l e R s m args below meth c G A nL k n Q ws pc lv (.int y :: .int x :: st) := by
  subst hp; exact fun H locs ls hP hD hS hl => lv_ior S.1.1 S.1.2.1 hdg (kk H locs ls hP hD hS hl)
theorem v_ixor (S : Fx p m c cc nL s args own meth rt G A) {x y : Int32} (hdg : decode cc pc = .ok (.ixor, 1)) (hp : pc + 1 = pc2) (kk : V p l e R s m args below meth c G A nL k n Q ws pc2 lv (.int (x ^^^ y) :: st)) : V p l e R s m args below meth c G A nL k n Q ws pc lv (.int y :: .int x :: st) := by
  subst hp; exact fun H locs ls hP hD hS hl => lv_ixor S.1.1 S.1.2.1 hdg (kk H locs ls hP hD hS hl)
theorem v_ishl (S : Fx p m c cc nL s args own meth rt G A) {x y : Int32} (hdg : decode cc pc = .ok (.ishl, 1)) (hp : pc + 1 = pc2) (kk : V p l e R s m args below meth c G A nL k n Q ws pc2 lv (.int (x <<< (y &&& 31)) :: st)) : V p l e R s m args below meth c G A nL k n Q ws pc lv (.int y :: .int x :: st) := by
  subst hp; exact fun H locs ls hP hD hS hl => lv_ishl S.1.1 S.1.2.1 hdg (kk H locs ls hP hD hS hl)
theorem v_ishr (S : Fx p m c cc nL s args own meth rt G A) {x y : Int32} (hdg : decode cc pc = .ok (.ishr, 1)) (hp : pc + 1 = pc2) (kk : V p l e R s m args below meth c G A nL k n Q ws pc2 lv (.int (x >>> (y &&& 31)) :: st)) : V p l e R s m args below meth c G A nL k n Q ws pc lv (.int y :: .int x :: st) := by
  subst hp; exact fun H locs ls hP hD hS hl => lv_ishr S.1.1 S.1.2.1 hdg (kk H locs ls hP hD hS hl)
theorem v_ineg (S : Fx p m c cc nL s args own meth rt G A) {x : Int32} (hdg : decode cc pc = .ok (.ineg, 1)) (hp : pc + 1 = pc2) (kk : V p l e R s m args below meth c G A nL k n Q ws pc2 lv (.int (-x) :: st)) : V p l e R s m args below meth c G A nL k n Q ws pc lv (.int x :: st) := by
  subst hp; exact fun H locs ls hP hD hS hl => lv_ineg S.1.1 S.1.2.1 hdg (kk H locs ls hP hD hS hl)
theorem v_iushr (S : Fx p m c cc nL s args own meth rt G A) {x y : Int32} (hdg : decode cc pc = .ok (.iushr, 1)) (hp : pc + 1 = pc2) (kk : V p l e R s m args below meth c G A nL k n Q ws pc2 lv (.int ((x.toUInt32 >>> (y.toUInt32 &&& Int32.toUInt32 31)).toInt32) :: st)) : V p l e R s m args below meth c G A nL k n Q ws pc lv (.int y :: .int x :: st) := by
  subst hp; exact fun H locs ls hP hD hS hl => lv_iushr S.1.1 S.1.2.1 hdg rfl (kk H locs ls hP hD hS hl)
theorem v_idiv (S : Fx p m c cc nL s args own meth rt G A) {x y : Int32} (hne : ¬ y = 0) (hdg : decode cc pc = .ok (.idiv, 1)) (hp : pc + 1 = pc2) (kk : V p l e R s m args below meth c G A nL k n Q ws pc2 lv (.int (x / y) :: st)) : V p l e R s m args below meth c G A nL k n Q ws pc lv (.int y :: .int x :: st) := by
  subst hp; exact fun H locs ls hP hD hS hl => lv_idiv S.1.1 S.1.2.1 hdg hne (kk H locs ls hP hD hS hl)
theorem v_irem (S : Fx p m c cc nL s args own meth rt G A) {x y : Int32} (hne : ¬ y = 0) (hdg : decode cc pc = .ok (.irem, 1)) (hp : pc + 1 = pc2) (kk : V p l e R s m args below meth c G A nL k n Q ws pc2 lv (.int (x - x / y * y) :: st)) : V p l e R s m args below meth c G A nL k n Q ws pc lv (.int y :: .int x :: st) := by
  subst hp; exact fun H locs ls hP hD hS hl => lv_irem S.1.1 S.1.2.1 hdg hne (kk H locs ls hP hD hS hl)
theorem v_dup (S : Fx p m c cc nL s args own meth rt G A) {v : Value} (hdg : decode cc pc = .ok (.dup, 1)) (hv : v.category = 1) (hp : pc + 1 = pc2) (kk : V p l e R s m args below meth c G A nL k n Q ws pc2 lv (v :: v :: st)) : V p l e R s m args below meth c G A nL k n Q ws pc lv (v :: st) := by
  subst hp; exact fun H locs ls hP hD hS hl => lv_dup S.1.1 S.1.2.1 hdg hv (kk H locs ls hP hD hS hl)
theorem v_dup2 (S : Fx p m c cc nL s args own meth rt G A) {v w : Value} (hdg : decode cc pc = .ok (.dup2, 1)) (hv : v.category = 1) (hw : w.category = 1) (hp : pc + 1 = pc2) (kk : V p l e R s m args below meth c G A nL k n Q ws pc2 lv (v :: w :: v :: w :: st)) : V p l e R s m args below meth c G A nL k n Q ws pc lv (v :: w :: st) := by
  subst hp; exact fun H locs ls hP hD hS hl => lv_dup2_11 S.1.1 S.1.2.1 hdg hv hw (kk H locs ls hP hD hS hl)
theorem v_pop (S : Fx p m c cc nL s args own meth rt G A) {v : Value} (hdg : decode cc pc = .ok (.pop, 1)) (hv : v.category = 1) (hp : pc + 1 = pc2) (kk : V p l e R s m args below meth c G A nL k n Q ws pc2 lv (st)) : V p l e R s m args below meth c G A nL k n Q ws pc lv (v :: st) := by
  subst hp; exact fun H locs ls hP hD hS hl => lv_pop S.1.1 S.1.2.1 hdg hv (kk H locs ls hP hD hS hl)
theorem v_i2d (S : Fx p m c cc nL s args own meth rt G A) {x : Int32} (hdg : decode cc pc = .ok (.i2d, 1)) (hp : pc + 1 = pc2) (kk : V p l e R s m args below meth c G A nL k n Q ws pc2 lv (.double (FP.i2d x) :: st)) : V p l e R s m args below meth c G A nL k n Q ws pc lv (.int x :: st) := by
  subst hp; exact fun H locs ls hP hD hS hl => lv_i2d S.1.1 S.1.2.1 hdg (kk H locs ls hP hD hS hl)
theorem v_dconst0 (S : Fx p m c cc nL s args own meth rt G A)  (hdg : decode cc pc = .ok (.dconst 0, 1)) (hp : pc + 1 = pc2) (kk : V p l e R s m args below meth c G A nL k n Q ws pc2 lv (.double FP.dconst0 :: st)) : V p l e R s m args below meth c G A nL k n Q ws pc lv (st) := by
  subst hp; exact fun H locs ls hP hD hS hl => lv_dconst0 S.1.1 S.1.2.1 hdg (kk H locs ls hP hD hS hl)
theorem v_ddiv (S : Fx p m c cc nL s args own meth rt G A) {x y : UInt64} (hne : vf_n64 (FP.ddiv x y)) (hdg : decode cc pc = .ok (.ddiv, 1)) (hp : pc + 1 = pc2) (kk : V p l e R s m args below meth c G A nL k n Q ws pc2 lv (.double (FP.ddiv x y) :: st)) : V p l e R s m args below meth c G A nL k n Q ws pc lv (.double y :: .double x :: st) := by
  subst hp; exact fun H locs ls hP hD hS hl => lv_ddiv S.1.1 S.1.2.1 hdg hne (kk H locs ls hP hD hS hl)
theorem v_dcmp (S : Fx p m c cc nL s args own meth rt G A) {x y : UInt64} {op : CmpOp} (hdg : decode cc pc = .ok (.dcmp op, 1)) (hp : pc + 1 = pc2) (kk : V p l e R s m args below meth c G A nL k n Q ws pc2 lv (.int (Op.cmpValue (FP.dcmp x y) op) :: st)) : V p l e R s m args below meth c G A nL k n Q ws pc lv (.double y :: .double x :: st) := by
  subst hp; exact fun H locs ls hP hD hS hl => lv_dcmp S.1.1 S.1.2.1 hdg (kk H locs ls hP hD hS hl)
theorem v_dload_n (S : Fx p m c cc nL s args own meth rt G A) {i : Fin 4} {j : Nat} {x : UInt64} (k0 : Nat) (hdg : decode cc pc = .ok (.dload_n i, 1)) (hi : (i : Nat) = j) (hk : lv[k0]? = some (j, .double x)) (hp : pc + 1 = pc2) (kk : V p l e R s m args below meth c G A nL k n Q ws pc2 lv (.double x :: st)) : V p l e R s m args below meth c G A nL k n Q ws pc lv (st) := by
  subst hp; exact fun H locs ls hP hD hS hl => lv_dload_n S.1.1 S.1.2.1 hdg hi (lv_at hl k0 hk) (kk H locs ls hP hD hS hl)
theorem v_dload (S : Fx p m c cc nL s args own meth rt G A) {j : Nat} {x : UInt64} (k0 : Nat) (hdg : decode cc pc = .ok (.dload j, 2)) (hk : lv[k0]? = some (j, .double x)) (hp : pc + 2 = pc2) (kk : V p l e R s m args below meth c G A nL k n Q ws pc2 lv (.double x :: st)) : V p l e R s m args below meth c G A nL k n Q ws pc lv (st) := by
  subst hp; exact fun H locs ls hP hD hS hl => lv_dload S.1.1 S.1.2.1 hdg (lv_at hl k0 hk) (kk H locs ls hP hD hS hl)
theorem v_dstore_n (S : Fx p m c cc nL s args own meth rt G A) {i : Fin 4} {j : Nat} {x : UInt64} (hdg : decode cc pc = .ok (.dstore_n i, 1)) (hi : (i : Nat) = j) (hn : j + 1 < nL) (ks : List Nat) (h2 : lv_pick ((j, Value.double x) :: lv.filter (fun q => !(q.1 == j) && (!(q.1 == j + 1) && !(q.1 + 1 == j && q.2.category == 2)))) ks = lv2) (hp : pc + 1 = pc2) (kk : V p l e R s m args below meth c G A nL k n Q ws pc2 lv2 st) : V p l e R s m args below meth c G A nL k n Q ws pc lv (.double x :: st) := by
  subst hp; exact fun H locs ls hP hD hS hl => lv_dstore_n S.1.1 S.1.2.1 hdg hi hl hn rfl (fun ls hl => kk H locs ls hP hD hS (lv_sub hl ks h2))
theorem v_dstore (S : Fx p m c cc nL s args own meth rt G A) {j : Nat} {x : UInt64} (hdg : decode cc pc = .ok (.dstore j, 2))  (hn : j + 1 < nL) (ks : List Nat) (h2 : lv_pick ((j, Value.double x) :: lv.filter (fun q => !(q.1 == j) && (!(q.1 == j + 1) && !(q.1 + 1 == j && q.2.category == 2)))) ks = lv2) (hp : pc + 2 = pc2) (kk : V p l e R s m args below meth c G A nL k n Q ws pc2 lv2 st) : V p l e R s m args below meth c G A nL k n Q ws pc lv (.double x :: st) := by
  subst hp; exact fun H locs ls hP hD hS hl => lv_dstore S.1.1 S.1.2.1 hdg hl hn rfl (fun ls hl => kk H locs ls hP hD hS (lv_sub hl ks h2))
theorem v_nmd {x : UInt64} (kk : ∀ y : UInt64, y = x → V p l e R s m args below meth c G A nL k n Q ws pc lv (.double y :: st)) : V p l e R s m args below meth c G A nL k n Q ws pc lv (.double x :: st) := kk x rfl
theorem v_icmp_eq (S : Fx p m c cc nL s args own meth rt G A) {x y : Int32} {off : Int} {tgt : Nat} (hdg : decode cc pc = .ok (.if_icmp .eq off, 3)) (ht : (pc : Int) + off = (tgt : Int)) (hp : pc + 3 = pc2) (kt : x = y → V p l e R s m args below meth c G A nL k n Q ws tgt lv st) (kf : ¬ x = y → V p l e R s m args below meth c G A nL k n Q ws pc2 lv st) : V p l e R s m args below meth c G A nL k n Q ws pc lv (.int y :: .int x :: st) := by
  subst hp; exact fun H locs ls hP hD hS hl => lv_icmp_eq S.1.1 S.1.2.1 hdg ht (fun c => kt c H locs ls hP hD hS hl) (fun c => kf c H locs ls hP hD hS hl)
theorem v_icmp_ne (S : Fx p m c cc nL s args own meth rt G A) {x y : Int32} {off : Int} {tgt : Nat} (hdg : decode cc pc = .ok (.if_icmp .ne off, 3)) (ht : (pc : Int) + off = (tgt : Int)) (hp : pc + 3 = pc2) (kt : ¬ x = y → V p l e R s m args below meth c G A nL k n Q ws tgt lv st) (kf : x = y → V p l e R s m args below meth c G A nL k n Q ws pc2 lv st) : V p l e R s m args below meth c G A nL k n Q ws pc lv (.int y :: .int x :: st) := by
  subst hp; exact fun H locs ls hP hD hS hl => lv_icmp_ne S.1.1 S.1.2.1 hdg ht (fun c => kt c H locs ls hP hD hS hl) (fun c => kf c H locs ls hP hD hS hl)
theorem v_icmp_lt (S : Fx p m c cc nL s args own meth rt G A) {x y : Int32} {off : Int} {tgt : Nat} (hdg : decode cc pc = .ok (.if_icmp .lt off, 3)) (ht : (pc : Int) + off = (tgt : Int)) (hp : pc + 3 = pc2) (kt : x < y → V p l e R s m args below meth c G A nL k n Q ws tgt lv st) (kf : ¬ x < y → V p l e R s m args below meth c G A nL k n Q ws pc2 lv st) : V p l e R s m args below meth c G A nL k n Q ws pc lv (.int y :: .int x :: st) := by
  subst hp; exact fun H locs ls hP hD hS hl => lv_icmp_lt S.1.1 S.1.2.1 hdg ht (fun c => kt c H locs ls hP hD hS hl) (fun c => kf c H locs ls hP hD hS hl)
theorem v_icmp_ge (S : Fx p m c cc nL s args own meth rt G A) {x y : Int32} {off : Int} {tgt : Nat} (hdg : decode cc pc = .ok (.if_icmp .ge off, 3)) (ht : (pc : Int) + off = (tgt : Int)) (hp : pc + 3 = pc2) (kt : y ≤ x → V p l e R s m args below meth c G A nL k n Q ws tgt lv st) (kf : ¬ y ≤ x → V p l e R s m args below meth c G A nL k n Q ws pc2 lv st) : V p l e R s m args below meth c G A nL k n Q ws pc lv (.int y :: .int x :: st) := by
  subst hp; exact fun H locs ls hP hD hS hl => lv_icmp_ge S.1.1 S.1.2.1 hdg ht (fun c => kt c H locs ls hP hD hS hl) (fun c => kf c H locs ls hP hD hS hl)
theorem v_icmp_gt (S : Fx p m c cc nL s args own meth rt G A) {x y : Int32} {off : Int} {tgt : Nat} (hdg : decode cc pc = .ok (.if_icmp .gt off, 3)) (ht : (pc : Int) + off = (tgt : Int)) (hp : pc + 3 = pc2) (kt : y < x → V p l e R s m args below meth c G A nL k n Q ws tgt lv st) (kf : ¬ y < x → V p l e R s m args below meth c G A nL k n Q ws pc2 lv st) : V p l e R s m args below meth c G A nL k n Q ws pc lv (.int y :: .int x :: st) := by
  subst hp; exact fun H locs ls hP hD hS hl => lv_icmp_gt S.1.1 S.1.2.1 hdg ht (fun c => kt c H locs ls hP hD hS hl) (fun c => kf c H locs ls hP hD hS hl)
theorem v_icmp_le (S : Fx p m c cc nL s args own meth rt G A) {x y : Int32} {off : Int} {tgt : Nat} (hdg : decode cc pc = .ok (.if_icmp .le off, 3)) (ht : (pc : Int) + off = (tgt : Int)) (hp : pc + 3 = pc2) (kt : x ≤ y → V p l e R s m args below meth c G A nL k n Q ws tgt lv st) (kf : ¬ x ≤ y → V p l e R s m args below meth c G A nL k n Q ws pc2 lv st) : V p l e R s m args below meth c G A nL k n Q ws pc lv (.int y :: .int x :: st) := by
  subst hp; exact fun H locs ls hP hD hS hl => lv_icmp_le S.1.1 S.1.2.1 hdg ht (fun c => kt c H locs ls hP hD hS hl) (fun c => kf c H locs ls hP hD hS hl)
theorem v_if_eq (S : Fx p m c cc nL s args own meth rt G A) {x : Int32} {off : Int} {tgt : Nat} (hdg : decode cc pc = .ok (.ifCond .eq off, 3)) (ht : (pc : Int) + off = (tgt : Int)) (hp : pc + 3 = pc2) (kt : x = 0 → V p l e R s m args below meth c G A nL k n Q ws tgt lv st) (kf : ¬ x = 0 → V p l e R s m args below meth c G A nL k n Q ws pc2 lv st) : V p l e R s m args below meth c G A nL k n Q ws pc lv (.int x :: st) := by
  subst hp; exact fun H locs ls hP hD hS hl => lv_if_eq S.1.1 S.1.2.1 hdg ht (fun c => kt c H locs ls hP hD hS hl) (fun c => kf c H locs ls hP hD hS hl)
theorem v_if_ne (S : Fx p m c cc nL s args own meth rt G A) {x : Int32} {off : Int} {tgt : Nat} (hdg : decode cc pc = .ok (.ifCond .ne off, 3)) (ht : (pc : Int) + off = (tgt : Int)) (hp : pc + 3 = pc2) (kt : ¬ x = 0 → V p l e R s m args below meth c G A nL k n Q ws tgt lv st) (kf : x = 0 → V p l e R s m args below meth c G A nL k n Q ws pc2 lv st) : V p l e R s m args below meth c G A nL k n Q ws pc lv (.int x :: st) := by
  subst hp; exact fun H locs ls hP hD hS hl => lv_if_ne S.1.1 S.1.2.1 hdg ht (fun c => kt c H locs ls hP hD hS hl) (fun c => kf c H locs ls hP hD hS hl)
theorem v_if_lt (S : Fx p m c cc nL s args own meth rt G A) {x : Int32} {off : Int} {tgt : Nat} (hdg : decode cc pc = .ok (.ifCond .lt off, 3)) (ht : (pc : Int) + off = (tgt : Int)) (hp : pc + 3 = pc2) (kt : x < 0 → V p l e R s m args below meth c G A nL k n Q ws tgt lv st) (kf : ¬ x < 0 → V p l e R s m args below meth c G A nL k n Q ws pc2 lv st) : V p l e R s m args below meth c G A nL k n Q ws pc lv (.int x :: st) := by
  subst hp; exact fun H locs ls hP hD hS hl => lv_if_lt S.1.1 S.1.2.1 hdg ht (fun c => kt c H locs ls hP hD hS hl) (fun c => kf c H locs ls hP hD hS hl)
theorem v_if_ge (S : Fx p m c cc nL s args own meth rt G A) {x : Int32} {off : Int} {tgt : Nat} (hdg : decode cc pc = .ok (.ifCond .ge off, 3)) (ht : (pc : Int) + off = (tgt : Int)) (hp : pc + 3 = pc2) (kt : 0 ≤ x → V p l e R s m args below meth c G A nL k n Q ws tgt lv st) (kf : ¬ 0 ≤ x → V p l e R s m args below meth c G A nL k n Q ws pc2 lv st) : V p l e R s m args below meth c G A nL k n Q ws pc lv (.int x :: st) := by
  subst hp; exact fun H locs ls hP hD hS hl => lv_if_ge S.1.1 S.1.2.1 hdg ht (fun c => kt c H locs ls hP hD hS hl) (fun c => kf c H locs ls hP hD hS hl)
theorem v_if_gt (S : Fx p m c cc nL s args own meth rt G A) {x : Int32} {off : Int} {tgt : Nat} (hdg : decode cc pc = .ok (.ifCond .gt off, 3)) (ht : (pc : Int) + off = (tgt : Int)) (hp : pc + 3 = pc2) (kt : 0 < x → V p l e R s m args below meth c G A nL k n Q ws tgt lv st) (kf : ¬ 0 < x → V p l e R s m args below meth c G A nL k n Q ws pc2 lv st) : V p l e R s m args below meth c G A nL k n Q ws pc lv (.int x :: st) := by
  subst hp; exact fun H locs ls hP hD hS hl => lv_if_gt S.1.1 S.1.2.1 hdg ht (fun c => kt c H locs ls hP hD hS hl) (fun c => kf c H locs ls hP hD hS hl)
theorem v_if_le (S : Fx p m c cc nL s args own meth rt G A) {x : Int32} {off : Int} {tgt : Nat} (hdg : decode cc pc = .ok (.ifCond .le off, 3)) (ht : (pc : Int) + off = (tgt : Int)) (hp : pc + 3 = pc2) (kt : x ≤ 0 → V p l e R s m args below meth c G A nL k n Q ws tgt lv st) (kf : ¬ x ≤ 0 → V p l e R s m args below meth c G A nL k n Q ws pc2 lv st) : V p l e R s m args below meth c G A nL k n Q ws pc lv (.int x :: st) := by
  subst hp; exact fun H locs ls hP hD hS hl => lv_if_le S.1.1 S.1.2.1 hdg ht (fun c => kt c H locs ls hP hD hS hl) (fun c => kf c H locs ls hP hD hS hl)
theorem v_goto (S : Fx p m c cc nL s args own meth rt G A) {off : Int} {tgt : Nat} (hdg : decode cc pc = .ok (.goto off, 3)) (ht : (pc : Int) + off = (tgt : Int)) (kk : V p l e R s m args below meth c G A nL k n Q ws tgt lv st) : V p l e R s m args below meth c G A nL k n Q ws pc lv st :=
  fun H locs ls hP hD hS hl => lv_goto S.1.1 S.1.2.1 hdg ht (kk H locs ls hP hD hS hl)
theorem v_tableIn (S : Fx p m c cc nL s args own meth rt G A) {dflt lo hi : Int} {offs : Array Int} {len : Nat} {x : Int32} {off : Int} {tgt : Nat} (hdg : decode cc pc = .ok (.tableswitch dflt lo hi offs, len)) (h1 : ¬ x.toInt < lo) (h2 : ¬ hi < x.toInt) (ho : offs[(x.toInt - lo).toNat]? = some off) (ht : (pc : Int) + off = (tgt : Int)) (kk : V p l e R s m args below meth c G A nL k n Q ws tgt lv st) : V p l e R s m args below meth c G A nL k n Q ws pc lv (.int x :: st) :=
  fun H locs ls hP hD hS hl => lv_tableIn S.1.1 S.1.2.1 hdg h1 h2 ho ht (kk H locs ls hP hD hS hl)
theorem v_tableOut (S : Fx p m c cc nL s args own meth rt G A) {dflt lo hi : Int} {offs : Array Int} {len : Nat} {x : Int32} {tgt : Nat} (hdg : decode cc pc = .ok (.tableswitch dflt lo hi offs, len)) (h : x.toInt < lo ∨ hi < x.toInt) (ht : (pc : Int) + dflt = (tgt : Int)) (kk : V p l e R s m args below meth c G A nL k n Q ws tgt lv st) : V p l e R s m args below meth c G A nL k n Q ws pc lv (.int x :: st) :=
  fun H locs ls hP hD hS hl => lv_tableOut S.1.1 S.1.2.1 hdg h ht (kk H locs ls hP hD hS hl)
theorem v_lookup (S : Fx p m c cc nL s args own meth rt G A) {dflt : Int} {ps : Array (Int × Int)} {len : Nat} {x : Int32} {off : Int} {tgt : Nat} (hdg : decode cc pc = .ok (.lookupswitch dflt ps, len)) (hq : (ps.toList.zip (ps.toList.drop 1)).all (fun (a, next) => a.1 < next.1) = true) (ho : Op.lookupswitch.offset ps.toList dflt x.toInt = off) (ht : (pc : Int) + off = (tgt : Int)) (kk : V p l e R s m args below meth c G A nL k n Q ws tgt lv st) : V p l e R s m args below meth c G A nL k n Q ws pc lv (.int x :: st) :=
  fun H locs ls hP hD hS hl => lv_lookup S.1.1 S.1.2.1 hdg hq ho ht (kk H locs ls hP hD hS hl)
theorem v_nm {x : Int32} (kk : ∀ y : Int32, y = x → V p l e R s m args below meth c G A nL k n Q ws pc lv (.int y :: st)) : V p l e R s m args below meth c G A nL k n Q ws pc lv (.int x :: st) := kk x rfl
theorem v_get (S : Fx p m c cc nL s args own meth rt G A) {index ci j : Nat} {a : Nat} {fs : List Value} {v : Value} (hf : GF own index ci j) (q0 : Nat) (he : ws[q0]? = some (a, .inr (ci, fs))) (hv : fs[j]? = some v) (hdg : decode cc pc = .ok (.getfield index, 3)) (hp : pc + 3 = pc2) (kk : V p l e R s m args below meth c G A nL k n Q ws pc2 lv (v :: st)) : V p l e R s m args below meth c G A nL k n Q ws pc lv (.ref a :: st) := by
  subst hp
  obtain ⟨C, T, N, hc, hin, hk, hl0⟩ := hf
  exact fun H locs ls hP hD hS hl => va_get (D := G.1) (Ts := ub) S.1.1 S.1.2.1 S.1.2.2.2.2 hin S.1.2.2.2.1 S.2.2.2.1 hP q0 he hc j hk (S.1.2.2.2.2 _ hl0) (fun _ h => h) hv hdg (kk H locs ls hP hD hS hl)
theorem v_getN (S : Fx p m c cc nL s args own meth rt G A) {index ci j : Nat} {a : Nat} {fs : List Value} {v : Value} (hf : GFN own index ci j) (q0 : Nat) (he : ws[q0]? = some (a, .inr (ci, fs))) (hv : fs[j]? = some v) (hdg : decode cc pc = .ok (.getfield index, 3)) (hp : pc + 3 = pc2) (kk : V p l e R s m args below meth c G A nL k n Q ws pc2 lv (v :: st)) : V p l e R s m args below meth c G A nL k n Q ws pc lv (.ref a :: st) := by
  subst hp
  obtain ⟨C, T, N, host, hc, hin, hk, hl0⟩ := hf
  exact fun H locs ls hP hD hS hl => va_getN (D := G.1) (Ts := ub) S.1.1 S.1.2.1 S.1.2.2.2.2 hin S.1.2.2.2.1 S.2.2.2.1 hP q0 he hc j hk (va_Nw.use rfl (S.2.2.2.2.1.1 _ hl0)) (fun _ h => h) hv hdg (kk H locs ls hP hD hS hl)
theorem v_put (S : Fx p m c cc nL s args own meth rt G A) {index ci j : Nat} {a : Nat} {fs : List Value} {v : Value} {ty : FieldType} (hf : GF own index ci j) (hg : PFc ci j false ty) (q0 : Nat) (he : ws[q0]? = some (a, .inr (ci, fs))) (hn : narrow ty v = v) (hfit : fits ty v = true) (hl1 : j < fs.length) (hw : ws.set q0 (a, .inr (ci, fs.set j v)) = ws2) (hdg : decode cc pc = .ok (.putfield index, 3)) (hp : pc + 3 = pc2) (kk : V p l e R s m args below meth c G A nL k n Q ws2 pc2 lv st) : V p l e R s m args below meth c G A nL k n Q ws pc lv (v :: .ref a :: st) := by
  subst hp; subst hw
  obtain ⟨C, T, N, hc, hin, hk, hl0⟩ := hf
  obtain ⟨C2, T2, N2, ty0, hc2, h1, h2, h3, h4, -⟩ := hg
  cases hc.symm.trans hc2
  exact fun H locs ls hP hD hS hl => va_put (D := G.1) (Ts := ub) S.1.1 S.1.2.1 S.1.2.2.2.2 hin ty0 h1 h2 S.1.2.2.2.1 S.2.2.2.1 hP hD hS q0 he hc j hk (S.1.2.2.2.2 _ hl0) (fun _ h => h) h3 h4 hn hfit hl1 hdg (fun H locs hP hD hS => kk H locs ls hP hD hS hl)
theorem v_putN (S : Fx p m c cc nL s args own meth rt G A) {index ci j : Nat} {a : Nat} {fs : List Value} {v : Value} {ty : FieldType} (hf : GFN own index ci j) (hg : PFc ci j false ty) (q0 : Nat) (he : ws[q0]? = some (a, .inr (ci, fs))) (hn : narrow ty v = v) (hfit : fits ty v = true) (hl1 : j < fs.length) (hw : ws.set q0 (a, .inr (ci, fs.set j v)) = ws2) (hdg : decode cc pc = .ok (.putfield index, 3)) (hp : pc + 3 = pc2) (kk : V p l e R s m args below meth c G A nL k n Q ws2 pc2 lv st) : V p l e R s m args below meth c G A nL k n Q ws pc lv (v :: .ref a :: st) := by
  subst hp; subst hw
  obtain ⟨C, T, N, host, hc, hin, hk, hl0⟩ := hf
  obtain ⟨C2, T2, N2, ty0, hc2, h1, h2, h3, h4, -⟩ := hg
  cases hc.symm.trans hc2
  exact fun H locs ls hP hD hS hl => va_putN (D := G.1) (Ts := ub) S.1.1 S.1.2.1 S.1.2.2.2.2 hin ty0 h1 h2 S.1.2.2.2.1 S.2.2.2.1 hP hD hS q0 he hc j hk (va_Nw.use rfl (S.2.2.2.2.1.1 _ hl0)) (fun _ h => h) h3 h4 hn hfit hl1 hdg (fun H locs hP hD hS => kk H locs ls hP hD hS hl)
theorem v_putF (S : Fx p m c cc nL s args own meth rt G A) {index ci j : Nat} {a : Nat} {fs : List Value} {v : Value} {ty : FieldType} (hinit : meth.name = "<init>") (hf : GF own index ci j) (hg : PFc ci j true ty) (hcl : vwCl[ci]?.map (fun q => q.1) = some own) (q0 : Nat) (he : ws[q0]? = some (a, .inr (ci, fs))) (hn : narrow ty v = v) (hfit : fits ty v = true) (hl1 : j < fs.length) (hw : ws.set q0 (a, .inr (ci, fs.set j v)) = ws2) (hdg : decode cc pc = .ok (.putfield index, 3)) (hp : pc + 3 = pc2) (kk : V p l e R s m args below meth c G A nL k n Q ws2 pc2 lv st) : V p l e R s m args below meth c G A nL k n Q ws pc lv (v :: .ref a :: st) := by
  subst hp; subst hw
  obtain ⟨C, T, N, hc, hin, hk, hl0⟩ := hf
  obtain ⟨C2, T2, N2, ty0, hc2, h1, h2, h3, h4, h5⟩ := hg
  cases hc.symm.trans hc2
  rw [hc] at hcl
  have hC : C = own := Option.some.inj hcl
  exact fun H locs ls hP hD hS hl => va_putF (D := G.1) (Ts := ub) S.1.1 S.1.2.1 S.1.2.2.2.2 hin ty0 h1 h2 S.1.2.2.2.1 S.2.2.2.1 hP hD hS q0 he hc j hk (S.1.2.2.2.2 _ hl0) (fun _ h => h) h3 hinit (h5.trans hC) h4 hn hfit hl1 hdg (fun H locs hP hD hS => kk H locs ls hP hD hS hl)
theorem v_iald (S : Fx p m c cc nL s args own meth rt G A) {a N : Nat} {f : Nat → Int32} {i : Int32} (q0 : Nat) (he : ws[q0]? = some (a, .inl (G.2.1, N, .inl f))) (hin : vp_in i N) (hdg : decode cc pc = .ok (.iaload, 1)) (hp : pc + 1 = pc2) (kk : V p l e R s m args below meth c G A nL k n Q ws pc2 lv (.int (f i.toNatClampNeg) :: st)) : V p l e R s m args below meth c G A nL k n Q ws pc lv (.int i :: .ref a :: st) := by
  subst hp
  exact fun H locs ls hP hD hS hl => va_iald S.1.1 S.1.2.1 S.2.2.2.1 hP q0 0 he rfl hin hdg (kk H locs ls hP hD hS hl)
theorem v_iast (S : Fx p m c cc nL s args own meth rt G A) {a N : Nat} {f : Nat → Int32} {i x : Int32} (q0 : Nat) (he : ws[q0]? = some (a, .inl (G.2.1, N, .inl f))) (hin : vp_in i N) (hw : ws.set q0 (a, .inl (G.2.1, N, .inl (upd f i.toNatClampNeg x))) = ws2) (hdg : decode cc pc = .ok (.iastore, 1)) (hp : pc + 1 = pc2) (kk : V p l e R s m args below meth c G A nL k n Q ws2 pc2 lv st) : V p l e R s m args below meth c G A nL k n Q ws pc lv (.int x :: .int i :: .ref a :: st) := by
  subst hp; subst hw
  exact fun H locs ls hP hD hS hl => va_iast S.1.1 S.1.2.1 S.2.2.2.1 hP hD hS q0 0 he rfl hin hdg (fun H locs hP hD hS => kk H locs ls hP hD hS hl)
theorem v_alen (S : Fx p m c cc nL s args own meth rt G A) {a N : Nat} {f : Nat → Int32} {v : Int32} (q0 : Nat) (he : ws[q0]? = some (a, .inl (G.2.1, N, .inl f))) (hv : Int32.ofNat N = v) (hdg : decode cc pc = .ok (.arraylength, 1)) (hp : pc + 1 = pc2) (kk : V p l e R s m args below meth c G A nL k n Q ws pc2 lv (.int v :: st)) : V p l e R s m args below meth c G A nL k n Q ws pc lv (.ref a :: st) := by
  subst hp
  exact fun H locs ls hP hD hS hl => va_alen S.1.1 S.1.2.1 S.2.2.2.1 hP q0 0 he (ty := .int) rfl hv hdg (kk H locs ls hP hD hS hl)
theorem v_aald (S : Fx p m c cc nL s args own meth rt G A) {a N : Nat} {f : Nat → Option Nat} {i : Int32} {v : Value} (q0 : Nat) (he : ws[q0]? = some (a, .inl (G.2.2, N, .inr (.inr (.inr (.inr f)))))) (hin : vp_in i N) (hv : va_rf (f i.toNatClampNeg) = v) (hdg : decode cc pc = .ok (.aaload, 1)) (hp : pc + 1 = pc2) (kk : V p l e R s m args below meth c G A nL k n Q ws pc2 lv (v :: st)) : V p l e R s m args below meth c G A nL k n Q ws pc lv (.int i :: .ref a :: st) := by
  subst hp; subst hv
  exact fun H locs ls hP hD hS hl => va_aldq S.1.1 S.1.2.1 S.2.2.2.1 hP q0 1 he (C := RX5) rfl hin hdg (kk H locs ls hP hD hS hl)
theorem v_aast (S : Fx p m c cc nL s args own meth rt G A) {a N v : Nat} {f : Nat → Option Nat} {i : Int32} {vs : List Value} (q0 qk : Nat) (he : ws[q0]? = some (a, .inl (G.2.2, N, .inr (.inr (.inr (.inr f)))))) (hv : ws[qk]? = some (v, .inr (5, vs))) (hin : vp_in i N) (hw : ws.set q0 (a, .inl (G.2.2, N, .inr (.inr (.inr (.inr (va_up f i.toNatClampNeg (some v))))))) = ws2) (hdg : decode cc pc = .ok (.aastore, 1)) (hp : pc + 1 = pc2) (kk : V p l e R s m args below meth c G A nL k n Q ws2 pc2 lv st) : V p l e R s m args below meth c G A nL k n Q ws pc lv (.ref v :: .int i :: .ref a :: st) := by
  subst hp; subst hw
  exact fun H locs ls hP hD hS hl => va_astq S.1.1 S.1.2.1 S.2.2.2.1 hP hD hS q0 1 qk 5 he (r := (RX5, TX5, 4)) rfl hv rfl hin hdg (fun H locs hP hD hS => kk H locs ls hP hD hS hl)

theorem v_max (S : Fx p m c cc nL s args own meth rt G A) {index : Nat} {x y : Int32} (hlink : Cond.methodLink own index Lib.Math.max.name ∈ ub) (hstat : Cond.static Lib.Math.max.name ∈ ub) (hini : Cond.initialized "java/lang/Math" ∈ ub) (hcode : Cond.code Lib.Math.max.name Lib.Math.max.code 2 (some .int) ∈ ub) (hR : 1 ≤ R.frames) (hlo : (st.map fun v => v.category).sum + 13 ≤ R.locals) (hk : k ≤ R.cells) (hs : n ≤ R.slots) (hdg : decode cc pc = .ok (.invokestatic index, 3)) (hp : pc + 3 = pc2) (kk : V p l e R s m args below meth c G A nL k n Q ws pc2 lv (.int (if x < y then y else x) :: st)) : V p l e R s m args below meth c G A nL k n Q ws pc lv (.int y :: .int x :: st) := by
  subst hp
  exact fun H locs ls hP hD hS hl => va_mmax S.1.1 S.1.2.1 (S.1.2.2.1.trans hl.1.symm) S.1.2.2.2.1 (S.1.2.2.2.2 _ hlink) (S.1.2.2.2.2 _ hstat) (S.1.2.2.2.2 _ hini) (S.1.2.2.2.2 _ hcode) hR hlo hk hs hdg (kk H locs ls hP hD hS hl)
theorem v_min (S : Fx p m c cc nL s args own meth rt G A) {index : Nat} {x y : Int32} (hlink : Cond.methodLink own index Lib.Math.min.name ∈ ub) (hstat : Cond.static Lib.Math.min.name ∈ ub) (hini : Cond.initialized "java/lang/Math" ∈ ub) (hcode : Cond.code Lib.Math.min.name Lib.Math.min.code 2 (some .int) ∈ ub) (hR : 1 ≤ R.frames) (hlo : (st.map fun v => v.category).sum + 13 ≤ R.locals) (hk : k ≤ R.cells) (hs : n ≤ R.slots) (hdg : decode cc pc = .ok (.invokestatic index, 3)) (hp : pc + 3 = pc2) (kk : V p l e R s m args below meth c G A nL k n Q ws pc2 lv (.int (if y < x then y else x) :: st)) : V p l e R s m args below meth c G A nL k n Q ws pc lv (.int y :: .int x :: st) := by
  subst hp
  exact fun H locs ls hP hD hS hl => va_mmin S.1.1 S.1.2.1 (S.1.2.2.1.trans hl.1.symm) S.1.2.2.2.1 (S.1.2.2.2.2 _ hlink) (S.1.2.2.2.2 _ hstat) (S.1.2.2.2.2 _ hini) (S.1.2.2.2.2 _ hcode) hR hlo hk hs hdg (kk H locs ls hP hD hS hl)
theorem v_copy (S : Fx p m c cc nL s args own meth rt G A) {index : Nat} (q0 q1 : Nat) {a0 a1 n0 n1 : Nat} {f g : Nat → Int32} {sp dp d : Int32} (hlink : Cond.methodLink own index arraycopyName ∈ ub) (hnat : Cond.native arraycopyName ∈ ub) (hstat : Cond.static arraycopyName ∈ ub) (hini : Cond.initialized "java/lang/System" ∈ ub) (he0 : ws[q0]? = some (a0, .inl (G.2.1, n0, .inl f))) (he1 : ws[q1]? = some (a1, .inl (G.2.1, n1, .inl g))) (h1 : ¬ sp < 0) (h2 : ¬ dp < 0) (h3 : ¬ d < 0) (h4 : sp.toNatClampNeg + d.toNatClampNeg ≤ n0) (h5 : dp.toNatClampNeg + d.toNatClampNeg ≤ n1) (hR : 1 ≤ R.frames) (hlo : (st.map fun v => v.category).sum + (nativeFrameWords "java/lang/System" "arraycopy" 5 + 11) ≤ R.locals) (hw : ws.set q1 (a1, .inl (G.2.1, n1, .inl (va_cpy f g sp.toNatClampNeg dp.toNatClampNeg d.toNatClampNeg))) = ws2) (hdg : decode cc pc = .ok (.invokestatic index, 3)) (hp : pc + 3 = pc2) (kk : V p l e R s m args below meth c G A nL k n Q ws2 pc2 lv st) : V p l e R s m args below meth c G A nL k n Q ws pc lv (.int d :: .int dp :: .ref a1 :: .int sp :: .ref a0 :: st) := by
  subst hp; subst hw
  exact fun H locs ls hP hD hS hl => va_copyi S.1.1 S.1.2.1 (S.1.2.2.1.trans hl.1.symm) S.1.2.2.2.1 (S.1.2.2.2.2 _ hlink) (S.1.2.2.2.2 _ hnat) (S.1.2.2.2.2 _ hstat) (S.1.2.2.2.2 _ hini) S.2.2.2.1 hP hD hS q0 q1 0 0 he0 he1 (ty := .int) rfl rfl rfl h1 h2 h3 h4 h5 (fun _ _ => rfl) hR hlo hdg (fun H locs hP hD hS => kk H locs ls hP hD hS hl)
theorem v_objInit (S : Fx p m c cc nL s args own meth rt G A) {index a : Nat} (hlink : Cond.methodLink own index Lib.objectInit ∈ ub) (hinst : Cond.instanceMethod Lib.objectInit ∈ ub) (hcode : Cond.code Lib.objectInit ⟨#[0xb1]⟩ 1 none ∈ ub) (hR : 1 ≤ R.frames) (hlo : (st.map fun v => v.category).sum + 12 ≤ R.locals) (hdg : decode cc pc = .ok (.invokespecial index, 3)) (hp : pc + 3 = pc2) (kk : V p l e R s m args below meth c G A nL k n Q ws pc2 lv st) : V p l e R s m args below meth c G A nL k n Q ws pc lv (.ref a :: st) := by
  subst hp
  exact fun H locs ls hP hD hS hl => W.objInit S.1.1 S.1.2.1 S.1.2.2.2.1 (S.1.2.2.2.2 _ hlink) (S.1.2.2.2.2 _ hinst) (S.1.2.2.2.2 _ hcode) rfl (by rw [S.1.2.2.1]; exact hl.1) rfl hdg hR (by show 2 * 0 + _ + 12 ≤ _; omega) (kk H locs ls hP hD hS hl)
theorem v_new (S : Fx p m c cc nL s args own meth rt G A) {index ci N a : Nat} {C : String} {T : u_T} {fs : List Value} (ty : Nat → FieldType) (hty : ∀ j, j < N → parseFieldDescriptor (T j).2.2.1 = some (ty j)) (hc : vwCl[ci]? = some (C, T, N)) (hin : ∀ w ∈ u_ws C T N, w ∈ ub) (hcl : Cond.classLink own index C ∈ ub) (hinst : Cond.instantiable C N ∈ ub) (hini : Cond.initialized C ∈ ub) (hfs : ∀ j, j < N → defaultValue (ty j) = vp_V fs j) (hcells : k + 1 ≤ R.cells) (hslots : n + N ≤ R.slots) (hdg : decode cc pc = .ok (.new index, 3)) (hp : pc + 3 = pc2) (kk : ∀ q : Nat, V p l e R s m args below meth c G A nL (k + 1) (n + N) Q (ws ++ [(q, .inr (ci, fs))]) pc2 lv (.ref q :: st)) : V p l e R s m args below meth c G A nL k n Q ws pc lv st := by
  subst hp
  exact fun H locs ls hP hD hS hl => va_new (D := G.1) (Ts := ub) S.1.1 S.1.2.1 S.1.2.2.2.2 hin ty hty S.1.2.2.2.1 (S.1.2.2.2.2 _ hcl) (S.1.2.2.2.2 _ hinst) (S.1.2.2.2.2 _ hini) S.2.2.2.1 hP hD hS S.2.2.2.2.2 hc hfs hcells hslots hdg (fun q H hP hD hS => kk q H locs ls hP hD hS hl)
theorem v_newa (S : Fx p m c cc nL s args own meth rt G A) {d : Int32} {N : Nat} (harr : Cond.arrayClass .int ∈ ub) (hn : ¬ d < 0) (hN : d.toNatClampNeg = N) (hbytes : N * 4 ≤ 536870912) (hcells : k + 1 ≤ R.cells) (hslots : n + N ≤ R.slots) (hdg : decode cc pc = .ok (.newarray .int, 2)) (hp : pc + 2 = pc2) (kk : ∀ q : Nat, V p l e R s m args below meth c G A nL (k + 1) (n + N) Q (ws ++ [(q, .inl (G.2.1, N, .inl (fun _ => 0)))]) pc2 lv (.ref q :: st)) : V p l e R s m args below meth c G A nL k n Q ws pc lv (.int d :: st) := by
  subst hp
  intro H locs ls hP hD hS hl
  refine va_newaK S.1.1 S.1.2.1 (atype := .int) (S.1.2.2.2.2 _ harr) rfl hdg rfl hn hN hbytes hcells hslots rfl fun H1 cA e1 z1 o1 hAr hNm => ?_
  have hcA : cA = G.2.1 := Option.some.inj (hNm.symm.trans (S.2.2.2.1.2 0 _ rfl).2)
  subst hcA
  have hk : ∀ (j : Nat) (x : Nat × va_E), ws[j]? = some x → H1[x.1]? = H[x.1]? := fun j x hx => o1 x.1 ((hP j x hx).lt)
  refine kk H.size H1 locs ls ((hP.kept hk).app (fun j x hx => ?_)) (hD.push hP rfl (S.2.2.2.2.2 _ hS.1)) ⟨Nat.le_trans hS.1 (by omega), fun x h1 h2 => (o1 x (Nat.lt_of_lt_of_le h1 hS.1)).trans (hS.2.1 x h1 h2), hS.2.2⟩ hl
  have hz : j < 1 := (List.getElem?_eq_some_iff.mp hx).1
  rw [show j = 0 by omega] at hx
  cases hx
  show H1[H.size]? = some (vp_cell _ _)
  rw [e1]
  rfl

theorem v_newq (S : Fx p m c cc nL s args own meth rt G A) {index : Nat} {d : Int32} {N : Nat} (hcl : Cond.classLink own index RX5 ∈ ub) (hn : ¬ d < 0) (hN : d.toNatClampNeg = N) (hbytes : N * 4 ≤ 536870912) (hcells : k + 1 ≤ R.cells) (hslots : n + N ≤ R.slots) (hdg : decode cc pc = .ok (.anewarray index, 3)) (hp : pc + 3 = pc2) (kk : ∀ q : Nat, V p l e R s m args below meth c G A nL (k + 1) (n + N) Q (ws ++ [(q, .inl (G.2.2, N, .inr (.inr (.inr (.inr (fun _ => none))))))]) pc2 lv (.ref q :: st)) : V p l e R s m args below meth c G A nL k n Q ws pc lv (.int d :: st) := by
  subst hp
  intro H locs ls hP hD hS hl
  refine va_newq (D := G.1) (cl := vwCl) (tys := [(G.2.1, .int), (G.2.2, .object RX5)]) S.1.1 S.1.2.1 S.1.2.2.2.1 (S.1.2.2.2.2 _ hcl) S.2.2.2.2.1.2 S.2.2.2.1 hP hD hS S.2.2.2.2.2 hn hN hbytes hcells hslots hdg (fun q cA H1 hK1 hP1 hD1 hS1 => ?_)
  have hcA : cA = G.2.2 := by
    obtain ⟨kA, cm, _, _, _, h4⟩ := (S.2.2.2.1.2 1 _ rfl).2
    obtain ⟨kB, cn, _, _, _, g4⟩ := (hK1.2 2 _ rfl).2
    exact Option.some.inj (g4.symm.trans h4)
  subst hcA
  exact kk q H1 locs ls hP1 hD1 hS1 hl
theorem v_ctcase {z : Int32} : True := trivial

theorem con_call {av : List Value} {C Rs : va_W} {wf : va_W → va_W} {Pq : Option Value → va_W → Prop} {mc ms : Nat} {st0 rest : List Value} (S : Fx p m c cc nL s args own meth rt G A)
    (hrun : ∀ (H : Heap) (locs : List Loc) (ls : Array Slot), va_P G.1 vwCl C H → va_D (fun _ => True) C → ls.size = nL → va_Run p l e R s m args below meth c H locs k n mc ms (F0 m pc ls st0) rest (EQ G C H.size Pq av.toArray) (va_A C H.size))
    (hw : FrM ws C Rs wf) (hp : pc + 3 = pc2) (kk : ∀ v w, Pq v w → V p l e R s m args below meth c G A nL (k + mc) (n + ms) Q (wf w) pc2 lv (v.toList ++ rest)) : V p l e R s m args below meth c G A nL k n Q ws pc lv st0 := by
  subst hp
  intro H locs ls hP hD hS hl
  have hPp : va_P G.1 vwCl (C ++ Rs) H := va_P.perm hw.1 hP
  have hDp : va_D A (C ++ Rs) := va_D.perm hw.1 hD
  have hPc : va_P G.1 vwCl C H := va_P.left hPp
  have hDc := va_D.left hDp
  have hPr : va_P G.1 vwCl Rs H := va_P.right hPp
  have hDr : va_D A Rs := va_D.right hDp
  have hF : ∀ q, va_A C H.size q → A q := by
    rintro q (⟨j, x, hx⟩ | hq)
    · exact hDc.2 j (q, x) hx
    · exact S.2.2.2.2.2 q (Nat.le_trans hS.1 hq)
  have hr := hrun H locs ls hPc (hDc.weaken (fun _ _ _ _ => trivial)) hl.1
  intro T hT X
  obtain ⟨v, st₀, t, T', L, h0, X', hL, e1, e2, ⟨⟨v', w, hv, hq, hP1, hK1, hD1⟩, hz, hkeep⟩, hst⟩ := hr T hT X
  cases hv
  rw [h0] at hz hkeep
  rw [← e1] at hP1 hz hkeep
  have hap : ∀ (i : Nat) (x : Nat × va_E), Rs[i]? = some x → x.1 < H.size ∧ ¬ va_A C H.size x.1 := by
    intro i x hx
    have hlt := (hPr i x hx).lt
    refine ⟨hlt, ?_⟩
    rintro (⟨j, y2, hy⟩ | hq)
    · exact va_D.apart hDp hy hx rfl
    · omega
  have hPr1 : va_P G.1 vwCl Rs T'.heap := hPr.kept (fun i x hx => hkeep x.1 (hap i x hx).1 (hap i x hx).2)
  have hD2 : va_D A (w ++ Rs) := va_D.app (hD1.weaken (fun _ x _ h => hF x.1 h)) hDr (fun i j x y2 hx hy hxy => (hap j y2 hy).2 (by rw [← hxy]; exact hD1.2 i x hx))
  obtain ⟨t2, a1, b1⟩ := kk v w hq T'.heap (locs ++ L) ls (va_P.perm (hw.2 w) (va_P.app hP1 hPr1)) (va_D.perm (hw.2 w) hD2)
    ⟨Nat.le_trans hS.1 hz, fun q h1 h2 => by rw [hkeep q (Nat.lt_of_lt_of_le h1 hS.1) (fun z => h2 (hF q z))]; exact hS.2.1 q h1 h2, fun q hq2 => (List.mem_append.mp hq2).elim (hS.2.2 q) (fun h => hF _ (hL q h))⟩ hl T' rfl X'
  exact ⟨t2, hst t2 a1, b1⟩
theorem v_callS {y : MethodName} {b : ByteArray} {nL2 : Nat} {rt2 : Option FieldType} {rm2 : Room} {As : List Value} {C Rs : va_W} {wf : va_W → va_W} {Pq : Option Value → va_W → Prop} {mc ms index N : Nat} {st0 rest : List Value} (S : Fx p m c cc nL s args own meth rt G A)  (hC : Con l G y b nL2 rt2 rm2 (As) C Pq mc ms) (F : MF y b nL2 rt2 N) (hlink : Cond.methodLink own index y ∈ ub) (hstat : Cond.static y ∈ ub) (hst0 : st0 = As.reverse ++ rest) (hn : As.length = N) (hm : rm2.cells = mc ∧ rm2.slots = ms) (hR : rm2.frames + 1 ≤ R.frames ∧ 8 + (nL2 + 11) + rm2.locals ≤ R.locals) (hcs : k + mc ≤ R.cells ∧ n + ms ≤ R.slots) (hcat : (rest.map fun v => v.category).sum ≤ 8) (hdg : decode cc pc = .ok (.invokestatic index, 3))
    (hw : FrM ws C Rs wf) (hp : pc + 3 = pc2) (kk : ∀ v w, Pq v w → V p l e R s m args below meth c G A nL (k + mc) (n + ms) Q (wf w) pc2 lv (v.toList ++ rest)) : V p l e R s m args below meth c G A nL k n Q ws pc lv st0 := by
  subst hst0
  exact con_call S (av := As) (fun H locs ls hP hD hsz => va_runS S.1 (hC H.size) (⟨callB_of N S.1.2.2.2.2 (ub_cons F.1) rfl hm.1 hm.2 (S.1.2.2.2.2 _ F.2.1) (S.1.2.2.2.2 _ hlink) F.2.2 hR, S.1.2.2.2.2 _ hstat⟩) ⟨fun a U g mk q => ⟨q.1, q.2.1, q.2.2.1, va_K.moved (u := U) (U := U.calling g mk a) (Vm.Alike.refl U.vm) q.2.2.2.1, q.2.2.2.2.1, q.2.2.2.2.2.calling⟩, fun U hU hW => ⟨rfl, by rw [hU], by rw [hU]; exact hP, va_K.moved hW.alike S.2.2.2.1, hD, NW.warm hW S.2.2.2.2.1⟩⟩ rfl hn hsz rfl (lv_room hcat) hdg hcs) hw hp kk
theorem v_callSN {y : MethodName} {b : ByteArray} {nL2 : Nat} {rt2 : Option FieldType} {rm2 : Room} {As : List Value} {C Rs : va_W} {wf : va_W → va_W} {Pq : Option Value → va_W → Prop} {mc ms index N : Nat} {st0 rest : List Value} (S : Fx p m c cc nL s args own meth rt G A)  {host : String} (hC : Con l G y b nL2 rt2 rm2 (As) C Pq mc ms) (F : MF y b nL2 rt2 N) (hlink : Cond.methodLinkNest own index y host ∈ nwL) (hstat : Cond.static y ∈ ub) (hst0 : st0 = As.reverse ++ rest) (hn : As.length = N) (hm : rm2.cells = mc ∧ rm2.slots = ms) (hR : rm2.frames + 1 ≤ R.frames ∧ 8 + (nL2 + 11) + rm2.locals ≤ R.locals) (hcs : k + mc ≤ R.cells ∧ n + ms ≤ R.slots) (hcat : (rest.map fun v => v.category).sum ≤ 8) (hdg : decode cc pc = .ok (.invokestatic index, 3))
    (hw : FrM ws C Rs wf) (hp : pc + 3 = pc2) (kk : ∀ v w, Pq v w → V p l e R s m args below meth c G A nL (k + mc) (n + ms) Q (wf w) pc2 lv (v.toList ++ rest)) : V p l e R s m args below meth c G A nL k n Q ws pc lv st0 := by
  subst hst0
  exact con_call S (av := As) (fun H locs ls hP hD hsz => va_runSN S.1 (hC H.size) (⟨va_cnB N S.1.2.2.2.2 (ub_cons F.1) rfl hm.1 hm.2 (S.2.2.2.2.1.1 _ hlink) (S.1.2.2.2.2 _ F.2.1) F.2.2 hR, S.1.2.2.2.2 _ hstat, trivial⟩) ⟨fun a U g mk q => ⟨q.1, q.2.1, q.2.2.1, va_K.moved (u := U) (U := U.calling g mk a) (Vm.Alike.refl U.vm) q.2.2.2.1, q.2.2.2.2.1, q.2.2.2.2.2.calling⟩, fun U hU hW => ⟨rfl, by rw [hU], by rw [hU]; exact hP, va_K.moved hW.alike S.2.2.2.1, hD, NW.warm hW S.2.2.2.2.1⟩⟩ rfl hn hsz rfl (lv_room hcat) hdg hcs) hw hp kk
theorem v_callV {y : MethodName} {b : ByteArray} {nL2 : Nat} {rt2 : Option FieldType} {rm2 : Room} {As : List Value} {C Rs : va_W} {wf : va_W → va_W} {Pq : Option Value → va_W → Prop} {mc ms index N : Nat} {st0 rest : List Value} (S : Fx p m c cc nL s args own meth rt G A) {bq : Nat} {cn : String} {fs : List Value} (hC : Con l G y b nL2 rt2 rm2 (.ref bq :: As) C Pq mc ms) (F : MF y b nL2 rt2 N) (hlink : Cond.methodLink own index y ∈ ub) (hinst : Cond.instanceMethod y ∈ ub) (hsel : Cond.selects cn y y ∈ ub) (qr ci : Nat) (hcn : vwCl[ci]?.map (fun q => q.1) = some cn) (hrc : C[qr]? = some (bq, .inr (ci, fs))) (hst0 : st0 = As.reverse ++ .ref bq :: rest) (hn : As.length = N) (hm : rm2.cells = mc ∧ rm2.slots = ms) (hR : rm2.frames + 1 ≤ R.frames ∧ 8 + (nL2 + 11) + rm2.locals ≤ R.locals) (hcs : k + mc ≤ R.cells ∧ n + ms ≤ R.slots) (hcat : (rest.map fun v => v.category).sum ≤ 8) (hdg : decode cc pc = .ok (.invokevirtual index, 3))
    (hw : FrM ws C Rs wf) (hp : pc + 3 = pc2) (kk : ∀ v w, Pq v w → V p l e R s m args below meth c G A nL (k + mc) (n + ms) Q (wf w) pc2 lv (v.toList ++ rest)) : V p l e R s m args below meth c G A nL k n Q ws pc lv st0 := by
  subst hst0
  have hrecv : ∀ H : Heap, va_P G.1 vwCl C H → ∃ cell : Cell, H[bq]? = some cell ∧ cell.vm.isStatics = false ∧ s.vm.findClass cn = some cell.cls := by
    intro H hP
    obtain ⟨r, hr1, hr2⟩ : ∃ r, vwCl[ci]? = some r ∧ r.1 = cn := by
      cases hz : vwCl[ci]? with
      | none => rw [hz] at hcn; cases hcn
      | some r => rw [hz] at hcn; exact ⟨r, rfl, Option.some.inj hcn⟩
    have h9 := va_recv S.2.2.2.1 hP hr1 hrc
    rw [hr2] at h9
    exact h9
  exact con_call S (av := .ref bq :: As) (fun H locs ls hP hD hsz => va_runV S.1 (hC H.size) (⟨callB_of N S.1.2.2.2.2 (ub_cons F.1) rfl hm.1 hm.2 (S.1.2.2.2.2 _ F.2.1) (S.1.2.2.2.2 _ hlink) F.2.2 hR, S.1.2.2.2.2 _ hinst, S.1.2.2.2.2 _ hsel⟩) ⟨fun a U g mk q => ⟨q.1, q.2.1, q.2.2.1, va_K.moved (u := U) (U := U.calling g mk a) (Vm.Alike.refl U.vm) q.2.2.2.1, q.2.2.2.2.1, q.2.2.2.2.2.calling⟩, hrecv H hP, fun U hU hW => ⟨rfl, by rw [hU], by rw [hU]; exact hP, va_K.moved hW.alike S.2.2.2.1, hD, NW.warm hW S.2.2.2.2.1⟩⟩ rfl hn hsz rfl (lv_room hcat) hdg hcs) hw hp kk
theorem v_callVN {y : MethodName} {b : ByteArray} {nL2 : Nat} {rt2 : Option FieldType} {rm2 : Room} {As : List Value} {C Rs : va_W} {wf : va_W → va_W} {Pq : Option Value → va_W → Prop} {mc ms index N : Nat} {st0 rest : List Value} (S : Fx p m c cc nL s args own meth rt G A) {bq : Nat} {cn : String} {fs : List Value} {host : String} (hC : Con l G y b nL2 rt2 rm2 (.ref bq :: As) C Pq mc ms) (F : MF y b nL2 rt2 N) (hlink : Cond.methodLinkNest own index y host ∈ nwL) (hinst : Cond.instanceMethod y ∈ ub) (hsel : Cond.selects cn y y ∈ ub) (qr ci : Nat) (hcn : vwCl[ci]?.map (fun q => q.1) = some cn) (hrc : C[qr]? = some (bq, .inr (ci, fs))) (hst0 : st0 = As.reverse ++ .ref bq :: rest) (hn : As.length = N) (hm : rm2.cells = mc ∧ rm2.slots = ms) (hR : rm2.frames + 1 ≤ R.frames ∧ 8 + (nL2 + 11) + rm2.locals ≤ R.locals) (hcs : k + mc ≤ R.cells ∧ n + ms ≤ R.slots) (hcat : (rest.map fun v => v.category).sum ≤ 8) (hdg : decode cc pc = .ok (.invokevirtual index, 3))
    (hw : FrM ws C Rs wf) (hp : pc + 3 = pc2) (kk : ∀ v w, Pq v w → V p l e R s m args below meth c G A nL (k + mc) (n + ms) Q (wf w) pc2 lv (v.toList ++ rest)) : V p l e R s m args below meth c G A nL k n Q ws pc lv st0 := by
  subst hst0
  have hrecv : ∀ H : Heap, va_P G.1 vwCl C H → ∃ cell : Cell, H[bq]? = some cell ∧ cell.vm.isStatics = false ∧ s.vm.findClass cn = some cell.cls := by
    intro H hP
    obtain ⟨r, hr1, hr2⟩ : ∃ r, vwCl[ci]? = some r ∧ r.1 = cn := by
      cases hz : vwCl[ci]? with
      | none => rw [hz] at hcn; cases hcn
      | some r => rw [hz] at hcn; exact ⟨r, rfl, Option.some.inj hcn⟩
    have h9 := va_recv S.2.2.2.1 hP hr1 hrc
    rw [hr2] at h9
    exact h9
  exact con_call S (av := .ref bq :: As) (fun H locs ls hP hD hsz => va_runVN S.1 (hC H.size) (⟨va_cnB N S.1.2.2.2.2 (ub_cons F.1) rfl hm.1 hm.2 (S.2.2.2.2.1.1 _ hlink) (S.1.2.2.2.2 _ F.2.1) F.2.2 hR, S.1.2.2.2.2 _ hinst, S.1.2.2.2.2 _ hsel⟩) ⟨fun a U g mk q => ⟨q.1, q.2.1, q.2.2.1, va_K.moved (u := U) (U := U.calling g mk a) (Vm.Alike.refl U.vm) q.2.2.2.1, q.2.2.2.2.1, q.2.2.2.2.2.calling⟩, hrecv H hP, fun U hU hW => ⟨rfl, by rw [hU], by rw [hU]; exact hP, va_K.moved hW.alike S.2.2.2.1, hD, NW.warm hW S.2.2.2.2.1⟩⟩ rfl hn hsz rfl (lv_room hcat) hdg hcs) hw hp kk
theorem v_callI {y : MethodName} {b : ByteArray} {nL2 : Nat} {rt2 : Option FieldType} {rm2 : Room} {As : List Value} {C Rs : va_W} {wf : va_W → va_W} {Pq : Option Value → va_W → Prop} {mc ms index N : Nat} {st0 rest : List Value} (S : Fx p m c cc nL s args own meth rt G A) {bq : Nat} (hC : Con l G y b nL2 none rm2 (.ref bq :: As) C Pq mc ms) (F : MF y b nL2 none N) (hlink : Cond.methodLink own index y ∈ ub) (hinst : Cond.instanceMethod y ∈ ub) (hnm : y.name = "<init>") (hst0 : st0 = As.reverse ++ .ref bq :: rest) (hn : As.length = N) (hm : rm2.cells = mc ∧ rm2.slots = ms) (hR : rm2.frames + 1 ≤ R.frames ∧ 8 + (nL2 + 11) + rm2.locals ≤ R.locals) (hcs : k + mc ≤ R.cells ∧ n + ms ≤ R.slots) (hcat : (rest.map fun v => v.category).sum ≤ 8) (hdg : decode cc pc = .ok (.invokespecial index, 3))
    (hw : FrM ws C Rs wf) (hp : pc + 3 = pc2) (kk : ∀ v w, Pq v w → V p l e R s m args below meth c G A nL (k + mc) (n + ms) Q (wf w) pc2 lv (v.toList ++ rest)) : V p l e R s m args below meth c G A nL k n Q ws pc lv st0 := by
  subst hst0
  exact con_call S (av := .ref bq :: As) (fun H locs ls hP hD hsz => va_runI S.1 (hC H.size) (⟨callB_of N S.1.2.2.2.2 (ub_cons F.1) rfl hm.1 hm.2 (S.1.2.2.2.2 _ F.2.1) (S.1.2.2.2.2 _ hlink) F.2.2 hR, hnm, S.1.2.2.2.2 _ hinst⟩) ⟨fun a U g mk q => ⟨q.1, q.2.1, q.2.2.1, va_K.moved (u := U) (U := U.calling g mk a) (Vm.Alike.refl U.vm) q.2.2.2.1, q.2.2.2.2.1, q.2.2.2.2.2.calling⟩, fun U hU hW => ⟨rfl, by rw [hU], by rw [hU]; exact hP, va_K.moved hW.alike S.2.2.2.1, hD, NW.warm hW S.2.2.2.2.1⟩⟩ rfl hn hsz rfl (lv_room hcat) hdg hcs) hw hp kk
theorem v_callIN {y : MethodName} {b : ByteArray} {nL2 : Nat} {rt2 : Option FieldType} {rm2 : Room} {As : List Value} {C Rs : va_W} {wf : va_W → va_W} {Pq : Option Value → va_W → Prop} {mc ms index N : Nat} {st0 rest : List Value} (S : Fx p m c cc nL s args own meth rt G A) {bq : Nat} {host : String} (hC : Con l G y b nL2 none rm2 (.ref bq :: As) C Pq mc ms) (F : MF y b nL2 none N) (hlink : Cond.methodLinkNest own index y host ∈ nwL) (hinst : Cond.instanceMethod y ∈ ub) (hnm : y.name = "<init>") (hst0 : st0 = As.reverse ++ .ref bq :: rest) (hn : As.length = N) (hm : rm2.cells = mc ∧ rm2.slots = ms) (hR : rm2.frames + 1 ≤ R.frames ∧ 8 + (nL2 + 11) + rm2.locals ≤ R.locals) (hcs : k + mc ≤ R.cells ∧ n + ms ≤ R.slots) (hcat : (rest.map fun v => v.category).sum ≤ 8) (hdg : decode cc pc = .ok (.invokespecial index, 3))
    (hw : FrM ws C Rs wf) (hp : pc + 3 = pc2) (kk : ∀ v w, Pq v w → V p l e R s m args below meth c G A nL (k + mc) (n + ms) Q (wf w) pc2 lv (v.toList ++ rest)) : V p l e R s m args below meth c G A nL k n Q ws pc lv st0 := by
  subst hst0
  exact con_call S (av := .ref bq :: As) (fun H locs ls hP hD hsz => va_runIN S.1 (hC H.size) (⟨va_cnB N S.1.2.2.2.2 (ub_cons F.1) rfl hm.1 hm.2 (S.2.2.2.2.1.1 _ hlink) (S.1.2.2.2.2 _ F.2.1) F.2.2 hR, hnm, S.1.2.2.2.2 _ hinst⟩) ⟨fun a U g mk q => ⟨q.1, q.2.1, q.2.2.1, va_K.moved (u := U) (U := U.calling g mk a) (Vm.Alike.refl U.vm) q.2.2.2.1, q.2.2.2.2.1, q.2.2.2.2.2.calling⟩, fun U hU hW => ⟨rfl, by rw [hU], by rw [hU]; exact hP, va_K.moved hW.alike S.2.2.2.1, hD, NW.warm hW S.2.2.2.2.1⟩⟩ rfl hn hsz rfl (lv_room hcat) hdg hcs) hw hp kk
theorem v_iret {C : va_W} {sz : Nat} {Pq : Option Value → va_W → Prop} {v : Int32} (S : Fx p m c cc nL s args own meth (some .int) G (va_A C sz)) (hq : Pq (some (.int v)) ws) (hdg : decode cc pc = .ok (.ireturn, 1)) : V p l e R s m args below meth c G (va_A C sz) nL k n (MQ below (EQ G C sz Pq) args s k n (va_A C sz)) ws pc lv [.int v] :=
  fun H locs ls hP hD hS hl => W.iret (v := v) S.1.1 S.1.2.1 S.2.1 (fun t ht hW => ⟨⟨_, ws, rfl, hq, by rw [ht]; exact hP, va_K.moved hW.alike S.2.2.2.1, hD⟩, hS.F ht⟩) hS.2.2 hdg (hlocks := S.2.2.1)
theorem v_zret {C : va_W} {sz : Nat} {Pq : Option Value → va_W → Prop} {v : Int32} (S : Fx p m c cc nL s args own meth (some .boolean) G (va_A C sz)) (hn : narrow .boolean (.int v) = .int v) (hq : Pq (some (.int v)) ws) (hdg : decode cc pc = .ok (.ireturn, 1)) : V p l e R s m args below meth c G (va_A C sz) nL k n (MQ below (EQ G C sz Pq) args s k n (va_A C sz)) ws pc lv [.int v] :=
  fun H locs ls hP hD hS hl => W.zret (v := v) S.1.1 S.1.2.1 S.2.1 hn (fun t ht hW => ⟨⟨_, ws, rfl, hq, by rw [ht]; exact hP, va_K.moved hW.alike S.2.2.2.1, hD⟩, hS.F ht⟩) hS.2.2 hdg (hlocks := S.2.2.1)
theorem v_dret {C : va_W} {sz : Nat} {Pq : Option Value → va_W → Prop} {v : UInt64} (S : Fx p m c cc nL s args own meth (some .double) G (va_A C sz)) (hq : Pq (some (.double v)) ws) (hdg : decode cc pc = .ok (.dreturn, 1)) : V p l e R s m args below meth c G (va_A C sz) nL k n (MQ below (EQ G C sz Pq) args s k n (va_A C sz)) ws pc lv [.double v] :=
  fun H locs ls hP hD hS hl => W.dret (v := v) S.1.1 S.1.2.1 S.2.1 (fun t ht hW => ⟨⟨_, ws, rfl, hq, by rw [ht]; exact hP, va_K.moved hW.alike S.2.2.2.1, hD⟩, hS.F ht⟩) hS.2.2 hdg (hlocks := S.2.2.1)
theorem v_vret {C : va_W} {sz : Nat} {Pq : Option Value → va_W → Prop} (S : Fx p m c cc nL s args own meth none G (va_A C sz)) (hq : Pq none ws) (hdg : decode cc pc = .ok (.return_, 1)) : V p l e R s m args below meth c G (va_A C sz) nL k n (MQ below (EQ G C sz Pq) args s k n (va_A C sz)) ws pc lv [] :=
  fun H locs ls hP hD hS hl => W.vret S.1.1 S.1.2.1 S.2.1 (fun t ht hW => ⟨⟨_, ws, rfl, hq, by rw [ht]; exact hP, va_K.moved hW.alike S.2.2.2.1, hD⟩, hS.F ht⟩) hS.2.2 hdg (hlocks := S.2.2.1)
theorem v_perm (ws2 : va_W) (h : ws.Perm ws2) (kk : V p l e R s m args below meth c G A nL k n Q ws2 pc lv st) : V p l e R s m args below meth c G A nL k n Q ws pc lv st :=
  fun H locs ls hP hD hS hl => kk H locs ls (va_P.perm h hP) (va_D.perm h hD) hS hl
end VRows
theorem con_of {l : Launch} {G : GG} {y : MethodName} {b : ByteArray} {nL : Nat} {rt : Option FieldType} {rm : Room} {av : List Value} {C : va_W} {Pq : Option Value → va_W → Prop} {mc ms : Nat} (own : String) (ho : y.cls = own) (hpn : plainName y.cls = true) (lv0 : List (Nat × Value)) (hlv : lv_args 0 av = lv0) (hle : (lg_sl av).length ≤ nL)
    (body : ∀ (p : Program) (e : Env) (s : State) (m : MethodId) (args : Array Value) (below : List Frame) (meth : Method) (c : Code), Fx p m c b nL s args own meth rt G (va_A C s.heap.size) → meth.name = y.name → V p l e rm s m args below meth c G (va_A C s.heap.size) nL 0 0 (MQ below (EQ G C s.heap.size Pq) args s mc ms (va_A C s.heap.size)) C 0 lv0 []) : Con l G y b nL rt rm av C Pq mc ms := by
  intro sz
  refine Met.ofW (cc := b) (maxL := nL) (ret := rt) hpn rfl ?_
  intro p e s m args below meth c s₁ B hml hv
  obtain ⟨rfl, hsz, hP, hK, hD0, hN⟩ := hv
  subst hsz
  have hts := atoms_spec (ws := .code y b nL rt :: ub) B.pre
  have hl := lv_entry av (n := nL) hle
  rw [lg_entry_eq]
  rw [hlv] at hl
  exact body p e s m av.toArray below meth c ⟨⟨B.exec, B.bytes, hml, by rw [← ho]; exact findClass_of_methodNamed B.named, fun w h => hts w (List.mem_cons_of_mem _ h)⟩, B.returns, B.notSynchronized, hK, hN, fun q h => Or.inr h⟩ (name_of_methodNamed B.named B.method).1 s.heap [] _ hP (hD0.self) va_S.rf hl
end
