section
-- ===== PART A: goes FIRST, ahead of the names: the tables' words, and 'selects' of the private methods out of them =====
/-- a private method of a class that the tables say can be made, by its rows of tables_1 -/
def lw_okq (q : MethodName × Nat) : Prop := (q.1.cls ≠ "java/lang/invoke/MethodHandle" ∧ q.1.cls ≠ "java/lang/invoke/VarHandle") ∧ Cond.instantiable q.1.cls q.2 ∈ tables_1 ∧ Cond.privateMethod q.1 ∈ tables_1 ∧ Cond.instanceMethod q.1 ∈ tables_1
theorem lw_p0 : lw_okq (⟨"CordDoors$State", "opensUnless", "(II)I"⟩, 4) := ⟨⟨by decide +kernel, by decide +kernel⟩, List.mem_of_getElem? (i := 24) (by decide +kernel), List.mem_of_getElem? (i := 288) (by decide +kernel), List.mem_of_getElem? (i := 289) (by decide +kernel)⟩
theorem lw_p1 : lw_okq (⟨"CordDoors$Loom", "hasTooMany", "(II)Z"⟩, 6) := ⟨⟨by decide +kernel, by decide +kernel⟩, List.mem_of_getElem? (i := 30) (by decide +kernel), List.mem_of_getElem? (i := 304) (by decide +kernel), List.mem_of_getElem? (i := 305) (by decide +kernel)⟩
theorem lw_p2 : lw_okq (⟨"CordDoors$State", "reasonNotToShut", "(I)I"⟩, 4) := ⟨⟨by decide +kernel, by decide +kernel⟩, List.mem_of_getElem? (i := 24) (by decide +kernel), List.mem_of_getElem? (i := 336) (by decide +kernel), List.mem_of_getElem? (i := 337) (by decide +kernel)⟩
theorem lw_p3 : lw_okq (⟨"CordDoors$State", "shutsUnless", "(II)I"⟩, 4) := ⟨⟨by decide +kernel, by decide +kernel⟩, List.mem_of_getElem? (i := 24) (by decide +kernel), List.mem_of_getElem? (i := 340) (by decide +kernel), List.mem_of_getElem? (i := 341) (by decide +kernel)⟩
theorem lw_p4 : lw_okq (⟨"CordDoors$State", "reasonNotToOpenAsGuest", "(II)I"⟩, 4) := ⟨⟨by decide +kernel, by decide +kernel⟩, List.mem_of_getElem? (i := 24) (by decide +kernel), List.mem_of_getElem? (i := 404) (by decide +kernel), List.mem_of_getElem? (i := 405) (by decide +kernel)⟩
theorem lw_p5 : lw_okq (⟨"CordDoors$State", "isAtDoor", "(II)Z"⟩, 4) := ⟨⟨by decide +kernel, by decide +kernel⟩, List.mem_of_getElem? (i := 24) (by decide +kernel), List.mem_of_getElem? (i := 408) (by decide +kernel), List.mem_of_getElem? (i := 409) (by decide +kernel)⟩
theorem lw_p6 : lw_okq (⟨"CordDoors$State", "reasonNotToUse", "(II)I"⟩, 4) := ⟨⟨by decide +kernel, by decide +kernel⟩, List.mem_of_getElem? (i := 24) (by decide +kernel), List.mem_of_getElem? (i := 424) (by decide +kernel), List.mem_of_getElem? (i := 425) (by decide +kernel)⟩
theorem lw_p7 : lw_okq (⟨"CordDoors$Pad", "codeAt", "(I)I"⟩, 2) := ⟨⟨by decide +kernel, by decide +kernel⟩, List.mem_of_getElem? (i := 161) (by decide +kernel), List.mem_of_getElem? (i := 464) (by decide +kernel), List.mem_of_getElem? (i := 465) (by decide +kernel)⟩
theorem lw_p8 : lw_okq (⟨"CordDoors", "runDeedAt", "(I)I"⟩, 7) := ⟨⟨by decide +kernel, by decide +kernel⟩, List.mem_of_getElem? (i := 16) (by decide +kernel), List.mem_of_getElem? (i := 485) (by decide +kernel), List.mem_of_getElem? (i := 486) (by decide +kernel)⟩
theorem lw_p9 : lw_okq (⟨"CordDoors$Pad", "placeOfLetter", "(I)I"⟩, 2) := ⟨⟨by decide +kernel, by decide +kernel⟩, List.mem_of_getElem? (i := 161) (by decide +kernel), List.mem_of_getElem? (i := 493) (by decide +kernel), List.mem_of_getElem? (i := 494) (by decide +kernel)⟩
theorem lw_p10 : lw_okq (⟨"CordDoors", "mostOfAllSets", "()I"⟩, 7) := ⟨⟨by decide +kernel, by decide +kernel⟩, List.mem_of_getElem? (i := 16) (by decide +kernel), List.mem_of_getElem? (i := 566) (by decide +kernel), List.mem_of_getElem? (i := 567) (by decide +kernel)⟩
theorem lw_p11 : lw_okq (⟨"CordDoors$Ways", "reach", "(II)V"⟩, 3) := ⟨⟨by decide +kernel, by decide +kernel⟩, List.mem_of_getElem? (i := 194) (by decide +kernel), List.mem_of_getElem? (i := 597) (by decide +kernel), List.mem_of_getElem? (i := 598) (by decide +kernel)⟩
theorem lw_p12 : lw_okq (⟨"CordDoors$Ways", "goOnFrom", "(LCordDoors$Loom;II)V"⟩, 3) := ⟨⟨by decide +kernel, by decide +kernel⟩, List.mem_of_getElem? (i := 194) (by decide +kernel), List.mem_of_getElem? (i := 601) (by decide +kernel), List.mem_of_getElem? (i := 602) (by decide +kernel)⟩
theorem lw_p13 : lw_okq (⟨"CordDoors$Ways", "lineUpSets", "(LCordDoors$Loom;I)V"⟩, 3) := ⟨⟨by decide +kernel, by decide +kernel⟩, List.mem_of_getElem? (i := 194) (by decide +kernel), List.mem_of_getElem? (i := 621) (by decide +kernel), List.mem_of_getElem? (i := 622) (by decide +kernel)⟩
theorem lw_p14 : lw_okq (⟨"CordDoors$Ways", "lessenAll", "(LCordDoors$Loom;II)I"⟩, 3) := ⟨⟨by decide +kernel, by decide +kernel⟩, List.mem_of_getElem? (i := 194) (by decide +kernel), List.mem_of_getElem? (i := 625) (by decide +kernel), List.mem_of_getElem? (i := 626) (by decide +kernel)⟩
theorem lw_p15 : lw_okq (⟨"CordDoors$Ways", "lessen", "(II)I"⟩, 3) := ⟨⟨by decide +kernel, by decide +kernel⟩, List.mem_of_getElem? (i := 194) (by decide +kernel), List.mem_of_getElem? (i := 631) (by decide +kernel), List.mem_of_getElem? (i := 632) (by decide +kernel)⟩
def lw_privs_1 : List (MethodName × Nat) := [(⟨"CordDoors$State", "opensUnless", "(II)I"⟩, 4), (⟨"CordDoors$Loom", "hasTooMany", "(II)Z"⟩, 6), (⟨"CordDoors$State", "reasonNotToShut", "(I)I"⟩, 4), (⟨"CordDoors$State", "shutsUnless", "(II)I"⟩, 4), (⟨"CordDoors$State", "reasonNotToOpenAsGuest", "(II)I"⟩, 4), (⟨"CordDoors$State", "isAtDoor", "(II)Z"⟩, 4), (⟨"CordDoors$State", "reasonNotToUse", "(II)I"⟩, 4), (⟨"CordDoors$Pad", "codeAt", "(I)I"⟩, 2), (⟨"CordDoors", "runDeedAt", "(I)I"⟩, 7), (⟨"CordDoors$Pad", "placeOfLetter", "(I)I"⟩, 2), (⟨"CordDoors", "mostOfAllSets", "()I"⟩, 7), (⟨"CordDoors$Ways", "reach", "(II)V"⟩, 3), (⟨"CordDoors$Ways", "goOnFrom", "(LCordDoors$Loom;II)V"⟩, 3), (⟨"CordDoors$Ways", "lineUpSets", "(LCordDoors$Loom;I)V"⟩, 3), (⟨"CordDoors$Ways", "lessenAll", "(LCordDoors$Loom;II)I"⟩, 3), (⟨"CordDoors$Ways", "lessen", "(II)I"⟩, 3)]
theorem lw_r1 : ∀ q ∈ lw_privs_1, lw_okq q := List.forall_mem_cons.mpr ⟨lw_p0, List.forall_mem_cons.mpr ⟨lw_p1, List.forall_mem_cons.mpr ⟨lw_p2, List.forall_mem_cons.mpr ⟨lw_p3, List.forall_mem_cons.mpr ⟨lw_p4, List.forall_mem_cons.mpr ⟨lw_p5, List.forall_mem_cons.mpr ⟨lw_p6, List.forall_mem_cons.mpr ⟨lw_p7, List.forall_mem_cons.mpr ⟨lw_p8, List.forall_mem_cons.mpr ⟨lw_p9, List.forall_mem_cons.mpr ⟨lw_p10, List.forall_mem_cons.mpr ⟨lw_p11, List.forall_mem_cons.mpr ⟨lw_p12, List.forall_mem_cons.mpr ⟨lw_p13, List.forall_mem_cons.mpr ⟨lw_p14, List.forall_mem_cons.mpr ⟨lw_p15, fun _ h => absurd h List.not_mem_nil⟩⟩⟩⟩⟩⟩⟩⟩⟩⟩⟩⟩⟩⟩⟩⟩
theorem lw_p16 : lw_okq (⟨"CordDoorsModel", "lay", "(III)V"⟩, 17) := ⟨⟨by decide +kernel, by decide +kernel⟩, List.mem_of_getElem? (i := 683) (by decide +kernel), List.mem_of_getElem? (i := 689) (by decide +kernel), List.mem_of_getElem? (i := 690) (by decide +kernel)⟩
theorem lw_p17 : lw_okq (⟨"CordDoorsModel", "openSet", "()I"⟩, 17) := ⟨⟨by decide +kernel, by decide +kernel⟩, List.mem_of_getElem? (i := 683) (by decide +kernel), List.mem_of_getElem? (i := 756) (by decide +kernel), List.mem_of_getElem? (i := 757) (by decide +kernel)⟩
theorem lw_p18 : lw_okq (⟨"CordDoorsModel", "of", "(II)I"⟩, 17) := ⟨⟨by decide +kernel, by decide +kernel⟩, List.mem_of_getElem? (i := 683) (by decide +kernel), List.mem_of_getElem? (i := 760) (by decide +kernel), List.mem_of_getElem? (i := 761) (by decide +kernel)⟩
theorem lw_p19 : lw_okq (⟨"CordDoorsModel", "record", "()V"⟩, 17) := ⟨⟨by decide +kernel, by decide +kernel⟩, List.mem_of_getElem? (i := 683) (by decide +kernel), List.mem_of_getElem? (i := 768) (by decide +kernel), List.mem_of_getElem? (i := 769) (by decide +kernel)⟩
theorem lw_p20 : lw_okq (⟨"CordDoorsModel", "openNow", "(I)I"⟩, 17) := ⟨⟨by decide +kernel, by decide +kernel⟩, List.mem_of_getElem? (i := 683) (by decide +kernel), List.mem_of_getElem? (i := 782) (by decide +kernel), List.mem_of_getElem? (i := 783) (by decide +kernel)⟩
theorem lw_p21 : lw_okq (⟨"CordDoorsModel", "reason", "(I)I"⟩, 17) := ⟨⟨by decide +kernel, by decide +kernel⟩, List.mem_of_getElem? (i := 683) (by decide +kernel), List.mem_of_getElem? (i := 786) (by decide +kernel), List.mem_of_getElem? (i := 787) (by decide +kernel)⟩
theorem lw_p22 : lw_okq (⟨"CordDoorsModel", "isOpen", "(I)Z"⟩, 17) := ⟨⟨by decide +kernel, by decide +kernel⟩, List.mem_of_getElem? (i := 683) (by decide +kernel), List.mem_of_getElem? (i := 790) (by decide +kernel), List.mem_of_getElem? (i := 791) (by decide +kernel)⟩
theorem lw_p23 : lw_okq (⟨"CordDoorsModel", "cordsTo", "(IZ)I"⟩, 17) := ⟨⟨by decide +kernel, by decide +kernel⟩, List.mem_of_getElem? (i := 683) (by decide +kernel), List.mem_of_getElem? (i := 794) (by decide +kernel), List.mem_of_getElem? (i := 795) (by decide +kernel)⟩
theorem lw_p24 : lw_okq (⟨"CordDoorsModel", "goesTo", "(II)Z"⟩, 17) := ⟨⟨by decide +kernel, by decide +kernel⟩, List.mem_of_getElem? (i := 683) (by decide +kernel), List.mem_of_getElem? (i := 798) (by decide +kernel), List.mem_of_getElem? (i := 799) (by decide +kernel)⟩
theorem lw_p25 : lw_okq (⟨"CordDoorsModel", "refuse", "(I)I"⟩, 17) := ⟨⟨by decide +kernel, by decide +kernel⟩, List.mem_of_getElem? (i := 683) (by decide +kernel), List.mem_of_getElem? (i := 802) (by decide +kernel), List.mem_of_getElem? (i := 803) (by decide +kernel)⟩
theorem lw_p26 : lw_okq (⟨"CordDoorsModel", "opens", "(I)I"⟩, 17) := ⟨⟨by decide +kernel, by decide +kernel⟩, List.mem_of_getElem? (i := 683) (by decide +kernel), List.mem_of_getElem? (i := 806) (by decide +kernel), List.mem_of_getElem? (i := 807) (by decide +kernel)⟩
theorem lw_p27 : lw_okq (⟨"CordDoorsModel", "shuts", "(II)V"⟩, 17) := ⟨⟨by decide +kernel, by decide +kernel⟩, List.mem_of_getElem? (i := 683) (by decide +kernel), List.mem_of_getElem? (i := 810) (by decide +kernel), List.mem_of_getElem? (i := 811) (by decide +kernel)⟩
theorem lw_p28 : lw_okq (⟨"CordDoorsModel", "openIn", "(I)I"⟩, 17) := ⟨⟨by decide +kernel, by decide +kernel⟩, List.mem_of_getElem? (i := 683) (by decide +kernel), List.mem_of_getElem? (i := 814) (by decide +kernel), List.mem_of_getElem? (i := 815) (by decide +kernel)⟩
theorem lw_p29 : lw_okq (⟨"CordDoorsModel", "joins", "(II)Z"⟩, 17) := ⟨⟨by decide +kernel, by decide +kernel⟩, List.mem_of_getElem? (i := 683) (by decide +kernel), List.mem_of_getElem? (i := 818) (by decide +kernel), List.mem_of_getElem? (i := 819) (by decide +kernel)⟩
theorem lw_p30 : lw_okq (⟨"CordDoorsModel", "lowestIn", "(II)I"⟩, 17) := ⟨⟨by decide +kernel, by decide +kernel⟩, List.mem_of_getElem? (i := 683) (by decide +kernel), List.mem_of_getElem? (i := 822) (by decide +kernel), List.mem_of_getElem? (i := 823) (by decide +kernel)⟩
theorem lw_p31 : lw_okq (⟨"CordDoorsModel", "shutNow", "(I)I"⟩, 17) := ⟨⟨by decide +kernel, by decide +kernel⟩, List.mem_of_getElem? (i := 683) (by decide +kernel), List.mem_of_getElem? (i := 830) (by decide +kernel), List.mem_of_getElem? (i := 831) (by decide +kernel)⟩
def lw_privs_2 : List (MethodName × Nat) := [(⟨"CordDoorsModel", "lay", "(III)V"⟩, 17), (⟨"CordDoorsModel", "openSet", "()I"⟩, 17), (⟨"CordDoorsModel", "of", "(II)I"⟩, 17), (⟨"CordDoorsModel", "record", "()V"⟩, 17), (⟨"CordDoorsModel", "openNow", "(I)I"⟩, 17), (⟨"CordDoorsModel", "reason", "(I)I"⟩, 17), (⟨"CordDoorsModel", "isOpen", "(I)Z"⟩, 17), (⟨"CordDoorsModel", "cordsTo", "(IZ)I"⟩, 17), (⟨"CordDoorsModel", "goesTo", "(II)Z"⟩, 17), (⟨"CordDoorsModel", "refuse", "(I)I"⟩, 17), (⟨"CordDoorsModel", "opens", "(I)I"⟩, 17), (⟨"CordDoorsModel", "shuts", "(II)V"⟩, 17), (⟨"CordDoorsModel", "openIn", "(I)I"⟩, 17), (⟨"CordDoorsModel", "joins", "(II)Z"⟩, 17), (⟨"CordDoorsModel", "lowestIn", "(II)I"⟩, 17), (⟨"CordDoorsModel", "shutNow", "(I)I"⟩, 17)]
theorem lw_r2 : ∀ q ∈ lw_privs_2, lw_okq q := List.forall_mem_cons.mpr ⟨lw_p16, List.forall_mem_cons.mpr ⟨lw_p17, List.forall_mem_cons.mpr ⟨lw_p18, List.forall_mem_cons.mpr ⟨lw_p19, List.forall_mem_cons.mpr ⟨lw_p20, List.forall_mem_cons.mpr ⟨lw_p21, List.forall_mem_cons.mpr ⟨lw_p22, List.forall_mem_cons.mpr ⟨lw_p23, List.forall_mem_cons.mpr ⟨lw_p24, List.forall_mem_cons.mpr ⟨lw_p25, List.forall_mem_cons.mpr ⟨lw_p26, List.forall_mem_cons.mpr ⟨lw_p27, List.forall_mem_cons.mpr ⟨lw_p28, List.forall_mem_cons.mpr ⟨lw_p29, List.forall_mem_cons.mpr ⟨lw_p30, List.forall_mem_cons.mpr ⟨lw_p31, fun _ h => absurd h List.not_mem_nil⟩⟩⟩⟩⟩⟩⟩⟩⟩⟩⟩⟩⟩⟩⟩⟩
theorem lw_p32 : lw_okq (⟨"CordDoorsModel", "guestOpensNow", "(II)I"⟩, 17) := ⟨⟨by decide +kernel, by decide +kernel⟩, List.mem_of_getElem? (i := 683) (by decide +kernel), List.mem_of_getElem? (i := 841) (by decide +kernel), List.mem_of_getElem? (i := 842) (by decide +kernel)⟩
theorem lw_p33 : lw_okq (⟨"CordDoorsModel", "isAt", "(II)Z"⟩, 17) := ⟨⟨by decide +kernel, by decide +kernel⟩, List.mem_of_getElem? (i := 683) (by decide +kernel), List.mem_of_getElem? (i := 845) (by decide +kernel), List.mem_of_getElem? (i := 846) (by decide +kernel)⟩
theorem lw_p34 : lw_okq (⟨"CordDoorsModel", "ofGuest", "(II)I"⟩, 17) := ⟨⟨by decide +kernel, by decide +kernel⟩, List.mem_of_getElem? (i := 683) (by decide +kernel), List.mem_of_getElem? (i := 849) (by decide +kernel), List.mem_of_getElem? (i := 850) (by decide +kernel)⟩
theorem lw_p35 : lw_okq (⟨"CordDoorsModel", "hasKey", "(II)Z"⟩, 17) := ⟨⟨by decide +kernel, by decide +kernel⟩, List.mem_of_getElem? (i := 683) (by decide +kernel), List.mem_of_getElem? (i := 853) (by decide +kernel), List.mem_of_getElem? (i := 854) (by decide +kernel)⟩
theorem lw_p36 : lw_okq (⟨"CordDoorsModel", "guestShutsNow", "(II)I"⟩, 17) := ⟨⟨by decide +kernel, by decide +kernel⟩, List.mem_of_getElem? (i := 683) (by decide +kernel), List.mem_of_getElem? (i := 861) (by decide +kernel), List.mem_of_getElem? (i := 862) (by decide +kernel)⟩
theorem lw_p37 : lw_okq (⟨"CordDoorsModel", "walkNow", "(II)I"⟩, 17) := ⟨⟨by decide +kernel, by decide +kernel⟩, List.mem_of_getElem? (i := 683) (by decide +kernel), List.mem_of_getElem? (i := 869) (by decide +kernel), List.mem_of_getElem? (i := 870) (by decide +kernel)⟩
theorem lw_p38 : lw_okq (⟨"CordDoorsModel", "across", "(II)I"⟩, 17) := ⟨⟨by decide +kernel, by decide +kernel⟩, List.mem_of_getElem? (i := 683) (by decide +kernel), List.mem_of_getElem? (i := 873) (by decide +kernel), List.mem_of_getElem? (i := 874) (by decide +kernel)⟩
theorem lw_p39 : lw_okq (⟨"CordDoorsModel", "lesserHall", "(I)I"⟩, 17) := ⟨⟨by decide +kernel, by decide +kernel⟩, List.mem_of_getElem? (i := 683) (by decide +kernel), List.mem_of_getElem? (i := 888) (by decide +kernel), List.mem_of_getElem? (i := 889) (by decide +kernel)⟩
theorem lw_p40 : lw_okq (⟨"CordDoorsModel", "greaterHall", "(I)I"⟩, 17) := ⟨⟨by decide +kernel, by decide +kernel⟩, List.mem_of_getElem? (i := 683) (by decide +kernel), List.mem_of_getElem? (i := 892) (by decide +kernel), List.mem_of_getElem? (i := 893) (by decide +kernel)⟩
theorem lw_p41 : lw_okq (⟨"CordDoorsModel", "readPad", "()Z"⟩, 17) := ⟨⟨by decide +kernel, by decide +kernel⟩, List.mem_of_getElem? (i := 683) (by decide +kernel), List.mem_of_getElem? (i := 916) (by decide +kernel), List.mem_of_getElem? (i := 917) (by decide +kernel)⟩
theorem lw_p42 : lw_okq (⟨"CordDoorsModel", "readDeed", "()Z"⟩, 17) := ⟨⟨by decide +kernel, by decide +kernel⟩, List.mem_of_getElem? (i := 683) (by decide +kernel), List.mem_of_getElem? (i := 920) (by decide +kernel), List.mem_of_getElem? (i := 921) (by decide +kernel)⟩
theorem lw_p43 : lw_okq (⟨"CordDoorsModel", "takes", "(I)Z"⟩, 17) := ⟨⟨by decide +kernel, by decide +kernel⟩, List.mem_of_getElem? (i := 683) (by decide +kernel), List.mem_of_getElem? (i := 924) (by decide +kernel), List.mem_of_getElem? (i := 925) (by decide +kernel)⟩
theorem lw_p44 : lw_okq (⟨"CordDoorsModel", "sees", "(II)Z"⟩, 17) := ⟨⟨by decide +kernel, by decide +kernel⟩, List.mem_of_getElem? (i := 683) (by decide +kernel), List.mem_of_getElem? (i := 928) (by decide +kernel), List.mem_of_getElem? (i := 929) (by decide +kernel)⟩
theorem lw_p45 : lw_okq (⟨"CordDoorsModel", "takesOne", "(II)I"⟩, 17) := ⟨⟨by decide +kernel, by decide +kernel⟩, List.mem_of_getElem? (i := 683) (by decide +kernel), List.mem_of_getElem? (i := 932) (by decide +kernel), List.mem_of_getElem? (i := 933) (by decide +kernel)⟩
theorem lw_p46 : lw_okq (⟨"CordDoorsModel", "doDeed", "(I)I"⟩, 17) := ⟨⟨by decide +kernel, by decide +kernel⟩, List.mem_of_getElem? (i := 683) (by decide +kernel), List.mem_of_getElem? (i := 940) (by decide +kernel), List.mem_of_getElem? (i := 941) (by decide +kernel)⟩
theorem lw_p47 : lw_okq (⟨"CordDoorsModel", "doorsOf", "(I)I"⟩, 17) := ⟨⟨by decide +kernel, by decide +kernel⟩, List.mem_of_getElem? (i := 683) (by decide +kernel), List.mem_of_getElem? (i := 956) (by decide +kernel), List.mem_of_getElem? (i := 957) (by decide +kernel)⟩
def lw_privs_3 : List (MethodName × Nat) := [(⟨"CordDoorsModel", "guestOpensNow", "(II)I"⟩, 17), (⟨"CordDoorsModel", "isAt", "(II)Z"⟩, 17), (⟨"CordDoorsModel", "ofGuest", "(II)I"⟩, 17), (⟨"CordDoorsModel", "hasKey", "(II)Z"⟩, 17), (⟨"CordDoorsModel", "guestShutsNow", "(II)I"⟩, 17), (⟨"CordDoorsModel", "walkNow", "(II)I"⟩, 17), (⟨"CordDoorsModel", "across", "(II)I"⟩, 17), (⟨"CordDoorsModel", "lesserHall", "(I)I"⟩, 17), (⟨"CordDoorsModel", "greaterHall", "(I)I"⟩, 17), (⟨"CordDoorsModel", "readPad", "()Z"⟩, 17), (⟨"CordDoorsModel", "readDeed", "()Z"⟩, 17), (⟨"CordDoorsModel", "takes", "(I)Z"⟩, 17), (⟨"CordDoorsModel", "sees", "(II)Z"⟩, 17), (⟨"CordDoorsModel", "takesOne", "(II)I"⟩, 17), (⟨"CordDoorsModel", "doDeed", "(I)I"⟩, 17), (⟨"CordDoorsModel", "doorsOf", "(I)I"⟩, 17)]
theorem lw_r3 : ∀ q ∈ lw_privs_3, lw_okq q := List.forall_mem_cons.mpr ⟨lw_p32, List.forall_mem_cons.mpr ⟨lw_p33, List.forall_mem_cons.mpr ⟨lw_p34, List.forall_mem_cons.mpr ⟨lw_p35, List.forall_mem_cons.mpr ⟨lw_p36, List.forall_mem_cons.mpr ⟨lw_p37, List.forall_mem_cons.mpr ⟨lw_p38, List.forall_mem_cons.mpr ⟨lw_p39, List.forall_mem_cons.mpr ⟨lw_p40, List.forall_mem_cons.mpr ⟨lw_p41, List.forall_mem_cons.mpr ⟨lw_p42, List.forall_mem_cons.mpr ⟨lw_p43, List.forall_mem_cons.mpr ⟨lw_p44, List.forall_mem_cons.mpr ⟨lw_p45, List.forall_mem_cons.mpr ⟨lw_p46, List.forall_mem_cons.mpr ⟨lw_p47, fun _ h => absurd h List.not_mem_nil⟩⟩⟩⟩⟩⟩⟩⟩⟩⟩⟩⟩⟩⟩⟩⟩
theorem lw_p48 : lw_okq (⟨"CordDoorsModel", "guestsIn", "(I)I"⟩, 17) := ⟨⟨by decide +kernel, by decide +kernel⟩, List.mem_of_getElem? (i := 683) (by decide +kernel), List.mem_of_getElem? (i := 960) (by decide +kernel), List.mem_of_getElem? (i := 961) (by decide +kernel)⟩
theorem lw_p49 : lw_okq (⟨"CordDoorsModel", "hangs", "(I)I"⟩, 17) := ⟨⟨by decide +kernel, by decide +kernel⟩, List.mem_of_getElem? (i := 683) (by decide +kernel), List.mem_of_getElem? (i := 964) (by decide +kernel), List.mem_of_getElem? (i := 965) (by decide +kernel)⟩
theorem lw_p50 : lw_okq (⟨"CordDoorsModel", "canOpen", "(I)I"⟩, 17) := ⟨⟨by decide +kernel, by decide +kernel⟩, List.mem_of_getElem? (i := 683) (by decide +kernel), List.mem_of_getElem? (i := 975) (by decide +kernel), List.mem_of_getElem? (i := 976) (by decide +kernel)⟩
theorem lw_p51 : lw_okq (⟨"CordDoorsModel", "canBe", "(I)Z"⟩, 17) := ⟨⟨by decide +kernel, by decide +kernel⟩, List.mem_of_getElem? (i := 683) (by decide +kernel), List.mem_of_getElem? (i := 987) (by decide +kernel), List.mem_of_getElem? (i := 988) (by decide +kernel)⟩
theorem lw_p52 : lw_okq (⟨"CordDoorsModel", "reach", "(II)V"⟩, 17) := ⟨⟨by decide +kernel, by decide +kernel⟩, List.mem_of_getElem? (i := 683) (by decide +kernel), List.mem_of_getElem? (i := 999) (by decide +kernel), List.mem_of_getElem? (i := 1000) (by decide +kernel)⟩
theorem lw_p53 : lw_okq (⟨"CordDoorsModel", "goOn", "(II)V"⟩, 17) := ⟨⟨by decide +kernel, by decide +kernel⟩, List.mem_of_getElem? (i := 683) (by decide +kernel), List.mem_of_getElem? (i := 1003) (by decide +kernel), List.mem_of_getElem? (i := 1004) (by decide +kernel)⟩
theorem lw_p54 : lw_okq (⟨"CordDoorsModel", "laySet", "(I)V"⟩, 17) := ⟨⟨by decide +kernel, by decide +kernel⟩, List.mem_of_getElem? (i := 683) (by decide +kernel), List.mem_of_getElem? (i := 1007) (by decide +kernel), List.mem_of_getElem? (i := 1008) (by decide +kernel)⟩
theorem lw_p55 : lw_okq (⟨"CordDoorsModel", "cords", "(Z)I"⟩, 17) := ⟨⟨by decide +kernel, by decide +kernel⟩, List.mem_of_getElem? (i := 683) (by decide +kernel), List.mem_of_getElem? (i := 1015) (by decide +kernel), List.mem_of_getElem? (i := 1016) (by decide +kernel)⟩
theorem lw_p56 : lw_okq (⟨"CordDoorsModel", "held", "()I"⟩, 17) := ⟨⟨by decide +kernel, by decide +kernel⟩, List.mem_of_getElem? (i := 683) (by decide +kernel), List.mem_of_getElem? (i := 1019) (by decide +kernel), List.mem_of_getElem? (i := 1020) (by decide +kernel)⟩
theorem lw_p57 : lw_okq (⟨"CordDoorsModel", "pairsOfHalls", "()I"⟩, 17) := ⟨⟨by decide +kernel, by decide +kernel⟩, List.mem_of_getElem? (i := 683) (by decide +kernel), List.mem_of_getElem? (i := 1023) (by decide +kernel), List.mem_of_getElem? (i := 1024) (by decide +kernel)⟩
theorem lw_p58 : lw_okq (⟨"CordDoorsModel", "pairsOfDoors", "()I"⟩, 17) := ⟨⟨by decide +kernel, by decide +kernel⟩, List.mem_of_getElem? (i := 683) (by decide +kernel), List.mem_of_getElem? (i := 1027) (by decide +kernel), List.mem_of_getElem? (i := 1028) (by decide +kernel)⟩
def lw_privs_4 : List (MethodName × Nat) := [(⟨"CordDoorsModel", "guestsIn", "(I)I"⟩, 17), (⟨"CordDoorsModel", "hangs", "(I)I"⟩, 17), (⟨"CordDoorsModel", "canOpen", "(I)I"⟩, 17), (⟨"CordDoorsModel", "canBe", "(I)Z"⟩, 17), (⟨"CordDoorsModel", "reach", "(II)V"⟩, 17), (⟨"CordDoorsModel", "goOn", "(II)V"⟩, 17), (⟨"CordDoorsModel", "laySet", "(I)V"⟩, 17), (⟨"CordDoorsModel", "cords", "(Z)I"⟩, 17), (⟨"CordDoorsModel", "held", "()I"⟩, 17), (⟨"CordDoorsModel", "pairsOfHalls", "()I"⟩, 17), (⟨"CordDoorsModel", "pairsOfDoors", "()I"⟩, 17)]
theorem lw_r4 : ∀ q ∈ lw_privs_4, lw_okq q := List.forall_mem_cons.mpr ⟨lw_p48, List.forall_mem_cons.mpr ⟨lw_p49, List.forall_mem_cons.mpr ⟨lw_p50, List.forall_mem_cons.mpr ⟨lw_p51, List.forall_mem_cons.mpr ⟨lw_p52, List.forall_mem_cons.mpr ⟨lw_p53, List.forall_mem_cons.mpr ⟨lw_p54, List.forall_mem_cons.mpr ⟨lw_p55, List.forall_mem_cons.mpr ⟨lw_p56, List.forall_mem_cons.mpr ⟨lw_p57, List.forall_mem_cons.mpr ⟨lw_p58, fun _ h => absurd h List.not_mem_nil⟩⟩⟩⟩⟩⟩⟩⟩⟩⟩⟩
def lw_privs : List (MethodName × Nat) := lw_privs_1 ++ (lw_privs_2 ++ (lw_privs_3 ++ (lw_privs_4)))
def lw_tbl : List Cond := k2_sels lw_privs ++ tables_1
theorem lw_privs_ok : ∀ q ∈ lw_privs, lw_okq q := by
  show ∀ q ∈ lw_privs_1 ++ (lw_privs_2 ++ (lw_privs_3 ++ (lw_privs_4))), lw_okq q
  exact List.forall_mem_append.mpr ⟨lw_r1, List.forall_mem_append.mpr ⟨lw_r2, List.forall_mem_append.mpr ⟨lw_r3, lw_r4⟩⟩⟩
/-- the streams that the claim lets the run draw from -/
abbrev lw_cs : List Choice := [Jvm.Choice.named "NaN.bits"]
theorem lw_bits : nanBits ∈ lw_cs := by first | decide | exact List.mem_cons_self | simp [lw_cs, nanBits]
/-! ===== BEGIN printed: names, fields, word lists, decode rows ===== -/
def RX0 : String := "CordDoors$Accounts"
def TX0 : u_T := fun k => match k with
  | 0 => ("CordDoors$Accounts", "openings", "[I", true)
  | 1 => ("CordDoors$Accounts", "shuttings", "[I", true)
  | 2 => ("CordDoors$Accounts", "opened", "I", false)
  | 3 => ("CordDoors$Accounts", "shutByHand", "I", false)
  | 4 => ("CordDoors$Accounts", "shutByCords", "I", false)
  | 5 => ("CordDoors$Accounts", "shutByDrafts", "I", false)
  | _ => ("CordDoors$Accounts", "refused", "I", false)
def tyX0 : Nat → FieldType := fun k => match k with
  | 0 => .array .int
  | 1 => .array .int
  | 2 => .int
  | 3 => .int
  | 4 => .int
  | 5 => .int
  | _ => .int
abbrev wsX00 : List Cond := u_ws RX0 TX0 7
theorem nmX0 : ∀ a, a < 7 → ∀ b, b < 7 → a ≠ b → (TX0 a).2.1 ≠ (TX0 b).2.1 := by decide +kernel
theorem tyX0_ok : ∀ k, k < 7 → parseFieldDescriptor (TX0 k).2.2.1 = some (tyX0 k) := by decide +kernel
abbrev cX0_init : ByteArray := prog_2_method_1_code
def yX0_init : MethodName := ⟨RX0, "<init>", "()V"⟩
abbrev cX0_copy : ByteArray := prog_2_method_2_code
def yX0_copy : MethodName := ⟨RX0, "copy", "(LCordDoors$Accounts;)V"⟩
abbrev cX0_noteOpened : ByteArray := prog_2_method_3_code
def yX0_noteOpened : MethodName := ⟨RX0, "noteOpened", "(I)V"⟩
abbrev cX0_noteShutByHand : ByteArray := prog_2_method_4_code
def yX0_noteShutByHand : MethodName := ⟨RX0, "noteShutByHand", "(I)V"⟩
abbrev cX0_noteShutByOpening : ByteArray := prog_2_method_5_code
def yX0_noteShutByOpening : MethodName := ⟨RX0, "noteShutByOpening", "(II)V"⟩
abbrev cX0_noteRefused : ByteArray := prog_2_method_6_code
def yX0_noteRefused : MethodName := ⟨RX0, "noteRefused", "(I)I"⟩
def RX1 : String := "CordDoors$Guests"
def TX1 : u_T := fun k => match k with
  | 0 => ("CordDoors$Guests", "halls", "[I", true)
  | 1 => ("CordDoors$Guests", "keySets", "[I", true)
  | _ => ("CordDoors$Guests", "walks", "[I", true)
def tyX1 : Nat → FieldType := fun k => match k with
  | 0 => .array .int
  | 1 => .array .int
  | _ => .array .int
abbrev wsX10 : List Cond := u_ws RX1 TX1 3
theorem nmX1 : ∀ a, a < 3 → ∀ b, b < 3 → a ≠ b → (TX1 a).2.1 ≠ (TX1 b).2.1 := by decide +kernel
theorem tyX1_ok : ∀ k, k < 3 → parseFieldDescriptor (TX1 k).2.2.1 = some (tyX1 k) := by decide +kernel
abbrev cX1_init : ByteArray := prog_3_method_1_code
def yX1_init : MethodName := ⟨RX1, "<init>", "()V"⟩
abbrev cX1_copy : ByteArray := prog_3_method_2_code
def yX1_copy : MethodName := ⟨RX1, "copy", "(LCordDoors$Guests;)V"⟩
abbrev cX1_howManyIn : ByteArray := prog_3_method_3_code
def yX1_howManyIn : MethodName := ⟨RX1, "howManyIn", "(I)I"⟩
def RX2 : String := "CordDoors$History"
def TX2 : u_T := fun k => match k with
  | 0 => ("CordDoors$History", "states", "[LCordDoors$State;", true)
  | 1 => ("CordDoors$History", "oldest", "I", false)
  | _ => ("CordDoors$History", "size", "I", false)
def tyX2 : Nat → FieldType := fun k => match k with
  | 0 => .array (.object "CordDoors$State")
  | 1 => .int
  | _ => .int
abbrev wsX20 : List Cond := u_ws RX2 TX2 3
theorem nmX2 : ∀ a, a < 3 → ∀ b, b < 3 → a ≠ b → (TX2 a).2.1 ≠ (TX2 b).2.1 := by decide +kernel
theorem tyX2_ok : ∀ k, k < 3 → parseFieldDescriptor (TX2 k).2.2.1 = some (tyX2 k) := by decide +kernel
abbrev cX2_init : ByteArray := prog_4_method_1_code
def yX2_init : MethodName := ⟨RX2, "<init>", "()V"⟩
abbrev cX2_record : ByteArray := prog_4_method_2_code
def yX2_record : MethodName := ⟨RX2, "record", "(LCordDoors$State;)V"⟩
abbrev cX2_takeBack : ByteArray := prog_4_method_3_code
def yX2_takeBack : MethodName := ⟨RX2, "takeBack", "(LCordDoors$State;)V"⟩
def RX3 : String := "CordDoors$Loom"
def TX3 : u_T := fun k => match k with
  | 0 => ("CordDoors$Loom", "firstCords", "[I", true)
  | 1 => ("CordDoors$Loom", "secondCords", "[I", true)
  | 2 => ("CordDoors$Loom", "lesserHalls", "[I", true)
  | 3 => ("CordDoors$Loom", "greaterHalls", "[I", true)
  | 4 => ("CordDoors$Loom", "doorsOfHalls", "[I", true)
  | _ => ("CordDoors$Loom", "draftSetting", "I", false)
def tyX3 : Nat → FieldType := fun k => match k with
  | 0 => .array .int
  | 1 => .array .int
  | 2 => .array .int
  | 3 => .array .int
  | 4 => .array .int
  | _ => .int
abbrev wsX30 : List Cond := u_ws RX3 TX3 6
theorem nmX3 : ∀ a, a < 6 → ∀ b, b < 6 → a ≠ b → (TX3 a).2.1 ≠ (TX3 b).2.1 := by decide +kernel
theorem tyX3_ok : ∀ k, k < 6 → parseFieldDescriptor (TX3 k).2.2.1 = some (tyX3 k) := by decide +kernel
abbrev cX3_init : ByteArray := prog_5_method_1_code
def yX3_init : MethodName := ⟨RX3, "<init>", "()V"⟩
abbrev cX3_copy : ByteArray := prog_5_method_2_code
def yX3_copy : MethodName := ⟨RX3, "copy", "(LCordDoors$Loom;)V"⟩
abbrev cX3_hang : ByteArray := prog_5_method_3_code
def yX3_hang : MethodName := ⟨RX3, "hang", "(III)V"⟩
abbrev cX3_lesserHall : ByteArray := prog_5_method_4_code
def yX3_lesserHall : MethodName := ⟨RX3, "lesserHall", "(I)I"⟩
abbrev cX3_greaterHall : ByteArray := prog_5_method_5_code
def yX3_greaterHall : MethodName := ⟨RX3, "greaterHall", "(I)I"⟩
abbrev cX3_otherHall : ByteArray := prog_5_method_6_code
def yX3_otherHall : MethodName := ⟨RX3, "otherHall", "(II)I"⟩
abbrev cX3_doorsOf : ByteArray := prog_5_method_7_code
def yX3_doorsOf : MethodName := ⟨RX3, "doorsOf", "(I)I"⟩
abbrev cX3_cordOf : ByteArray := prog_5_method_8_code
def yX3_cordOf : MethodName := ⟨RX3, "cordOf", "(IZ)I"⟩
abbrev cX3_layCord : ByteArray := prog_5_method_9_code
def yX3_layCord : MethodName := ⟨RX3, "layCord", "(IZI)V"⟩
abbrev cX3_targetsOf : ByteArray := prog_5_method_10_code
def yX3_targetsOf : MethodName := ⟨RX3, "targetsOf", "(I)I"⟩
abbrev cX3_heldBy : ByteArray := prog_5_method_11_code
def yX3_heldBy : MethodName := ⟨RX3, "heldBy", "(I)I"⟩
abbrev cX3_cordsOf : ByteArray := prog_5_method_12_code
def yX3_cordsOf : MethodName := ⟨RX3, "cordsOf", "(I)I"⟩
abbrev cX3_cordsTo : ByteArray := prog_5_method_13_code
def yX3_cordsTo : MethodName := ⟨RX3, "cordsTo", "(II)I"⟩
abbrev cX3_pairsOfDoors : ByteArray := prog_5_method_14_code
def yX3_pairsOfDoors : MethodName := ⟨RX3, "pairsOfDoors", "()I"⟩
abbrev cX3_canBeOpen : ByteArray := prog_5_method_15_code
def yX3_canBeOpen : MethodName := ⟨RX3, "canBeOpen", "(I)Z"⟩
abbrev cX3_hasTooMany : ByteArray := prog_5_method_16_code
def yX3_hasTooMany : MethodName := ⟨RX3, "hasTooMany", "(II)Z"⟩
abbrev cX3_afterOpening : ByteArray := prog_5_method_17_code
def yX3_afterOpening : MethodName := ⟨RX3, "afterOpening", "(II)I"⟩
abbrev cX3_afterCords : ByteArray := prog_5_method_18_code
def yX3_afterCords : MethodName := ⟨RX3, "afterCords", "(II)I"⟩
abbrev cX3_afterDrafts : ByteArray := prog_5_method_19_code
def yX3_afterDrafts : MethodName := ⟨RX3, "afterDrafts", "(II)I"⟩
abbrev cX3_hallsFrom : ByteArray := prog_5_method_20_code
def yX3_hallsFrom : MethodName := ⟨RX3, "hallsFrom", "(II)I"⟩
abbrev cX3_pairsOfHalls : ByteArray := prog_5_method_21_code
def yX3_pairsOfHalls : MethodName := ⟨RX3, "pairsOfHalls", "(I)I"⟩
def RX4 : String := "CordDoors$Pad"
def TX4 : u_T := fun k => match k with
  | 0 => ("CordDoors$Pad", "codes", "[I", true)
  | _ => ("CordDoors$Pad", "length", "I", false)
def tyX4 : Nat → FieldType := fun k => match k with
  | 0 => .array .int
  | _ => .int
abbrev wsX40 : List Cond := u_ws RX4 TX4 2
theorem nmX4 : ∀ a, a < 2 → ∀ b, b < 2 → a ≠ b → (TX4 a).2.1 ≠ (TX4 b).2.1 := by decide +kernel
theorem tyX4_ok : ∀ k, k < 2 → parseFieldDescriptor (TX4 k).2.2.1 = some (tyX4 k) := by decide +kernel
abbrev cX4_init : ByteArray := prog_6_method_1_code
def yX4_init : MethodName := ⟨RX4, "<init>", "()V"⟩
abbrev cX4_add : ByteArray := prog_6_method_2_code
def yX4_add : MethodName := ⟨RX4, "add", "(I)I"⟩
abbrev cX4_empty : ByteArray := prog_6_method_3_code
def yX4_empty : MethodName := ⟨RX4, "empty", "()I"⟩
abbrev cX4_faultPlace : ByteArray := prog_6_method_4_code
def yX4_faultPlace : MethodName := ⟨RX4, "faultPlace", "()I"⟩
abbrev cX4_expectedAfter : ByteArray := prog_6_method_5_code
def yX4_expectedAfter : MethodName := ⟨RX4, "expectedAfter", "(II)I"⟩
abbrev cX4_codeAt : ByteArray := prog_6_method_6_code
def yX4_codeAt : MethodName := ⟨RX4, "codeAt", "(I)I"⟩
abbrev cX4_isGuestsDeed : ByteArray := prog_6_method_7_code
def yX4_isGuestsDeed : MethodName := ⟨RX4, "isGuestsDeed", "(I)Z"⟩
abbrev cX4_guestOfDeed : ByteArray := prog_6_method_8_code
def yX4_guestOfDeed : MethodName := ⟨RX4, "guestOfDeed", "(I)I"⟩
abbrev cX4_letterOfDeed : ByteArray := prog_6_method_9_code
def yX4_letterOfDeed : MethodName := ⟨RX4, "letterOfDeed", "(I)I"⟩
abbrev cX4_doorOfDeed : ByteArray := prog_6_method_10_code
def yX4_doorOfDeed : MethodName := ⟨RX4, "doorOfDeed", "(I)I"⟩
abbrev cX4_placeOfNextDeed : ByteArray := prog_6_method_11_code
def yX4_placeOfNextDeed : MethodName := ⟨RX4, "placeOfNextDeed", "(I)I"⟩
abbrev cX4_placeOfLetter : ByteArray := prog_6_method_12_code
def yX4_placeOfLetter : MethodName := ⟨RX4, "placeOfLetter", "(I)I"⟩
def RX5 : String := "CordDoors$State"
def TX5 : u_T := fun k => match k with
  | 0 => ("CordDoors$State", "loom", "LCordDoors$Loom;", true)
  | 1 => ("CordDoors$State", "guests", "LCordDoors$Guests;", true)
  | 2 => ("CordDoors$State", "accounts", "LCordDoors$Accounts;", true)
  | _ => ("CordDoors$State", "openDoors", "I", false)
def tyX5 : Nat → FieldType := fun k => match k with
  | 0 => .object "CordDoors$Loom"
  | 1 => .object "CordDoors$Guests"
  | 2 => .object "CordDoors$Accounts"
  | _ => .int
abbrev wsX50 : List Cond := u_ws RX5 TX5 4
theorem nmX5 : ∀ a, a < 4 → ∀ b, b < 4 → a ≠ b → (TX5 a).2.1 ≠ (TX5 b).2.1 := by decide +kernel
theorem tyX5_ok : ∀ k, k < 4 → parseFieldDescriptor (TX5 k).2.2.1 = some (tyX5 k) := by decide +kernel
abbrev cX5_init : ByteArray := prog_7_method_1_code
def yX5_init : MethodName := ⟨RX5, "<init>", "()V"⟩
abbrev cX5_copy : ByteArray := prog_7_method_2_code
def yX5_copy : MethodName := ⟨RX5, "copy", "(LCordDoors$State;)V"⟩
abbrev cX5_isOpen : ByteArray := prog_7_method_3_code
def yX5_isOpen : MethodName := ⟨RX5, "isOpen", "(I)Z"⟩
abbrev cX5_shutDoors : ByteArray := prog_7_method_4_code
def yX5_shutDoors : MethodName := ⟨RX5, "shutDoors", "()I"⟩
abbrev cX5_reasonNotToOpen : ByteArray := prog_7_method_5_code
def yX5_reasonNotToOpen : MethodName := ⟨RX5, "reasonNotToOpen", "(I)I"⟩
abbrev cX5_reasonNotToShut : ByteArray := prog_7_method_6_code
def yX5_reasonNotToShut : MethodName := ⟨RX5, "reasonNotToShut", "(I)I"⟩
abbrev cX5_isAtDoor : ByteArray := prog_7_method_7_code
def yX5_isAtDoor : MethodName := ⟨RX5, "isAtDoor", "(II)Z"⟩
abbrev cX5_reasonNotToOpenAsGuest : ByteArray := prog_7_method_8_code
def yX5_reasonNotToOpenAsGuest : MethodName := ⟨RX5, "reasonNotToOpenAsGuest", "(II)I"⟩
abbrev cX5_reasonNotToUse : ByteArray := prog_7_method_9_code
def yX5_reasonNotToUse : MethodName := ⟨RX5, "reasonNotToUse", "(II)I"⟩
abbrev cX5_howManyCouldOpen : ByteArray := prog_7_method_10_code
def yX5_howManyCouldOpen : MethodName := ⟨RX5, "howManyCouldOpen", "(I)I"⟩
abbrev cX5_servantOpens : ByteArray := prog_7_method_11_code
def yX5_servantOpens : MethodName := ⟨RX5, "servantOpens", "(I)I"⟩
abbrev cX5_servantShuts : ByteArray := prog_7_method_12_code
def yX5_servantShuts : MethodName := ⟨RX5, "servantShuts", "(I)I"⟩
abbrev cX5_opensAsGuest : ByteArray := prog_7_method_13_code
def yX5_opensAsGuest : MethodName := ⟨RX5, "opensAsGuest", "(II)I"⟩
abbrev cX5_shutsAsGuest : ByteArray := prog_7_method_14_code
def yX5_shutsAsGuest : MethodName := ⟨RX5, "shutsAsGuest", "(II)I"⟩
abbrev cX5_walksThrough : ByteArray := prog_7_method_15_code
def yX5_walksThrough : MethodName := ⟨RX5, "walksThrough", "(II)I"⟩
abbrev cX5_laysCord : ByteArray := prog_7_method_16_code
def yX5_laysCord : MethodName := ⟨RX5, "laysCord", "(IZI)I"⟩
abbrev cX5_opensUnless : ByteArray := prog_7_method_17_code
def yX5_opensUnless : MethodName := ⟨RX5, "opensUnless", "(II)I"⟩
abbrev cX5_shutsUnless : ByteArray := prog_7_method_18_code
def yX5_shutsUnless : MethodName := ⟨RX5, "shutsUnless", "(II)I"⟩
def RX6 : String := "CordDoors$Stop"
def TX6 : u_T := fun k => match k with
  | 0 => ("CordDoors$Stop", "reason", "I", false)
  | 1 => ("CordDoors$Stop", "number", "I", false)
  | _ => ("CordDoors$Stop", "place", "I", false)
def tyX6 : Nat → FieldType := fun k => match k with
  | 0 => .int
  | 1 => .int
  | _ => .int
abbrev wsX60 : List Cond := u_ws RX6 TX6 3
theorem nmX6 : ∀ a, a < 3 → ∀ b, b < 3 → a ≠ b → (TX6 a).2.1 ≠ (TX6 b).2.1 := by decide +kernel
theorem tyX6_ok : ∀ k, k < 3 → parseFieldDescriptor (TX6 k).2.2.1 = some (tyX6 k) := by decide +kernel
abbrev cX6_init : ByteArray := prog_8_method_1_code
def yX6_init : MethodName := ⟨RX6, "<init>", "()V"⟩
abbrev cX6_forget : ByteArray := prog_8_method_2_code
def yX6_forget : MethodName := ⟨RX6, "forget", "()V"⟩
abbrev cX6_remember : ByteArray := prog_8_method_3_code
def yX6_remember : MethodName := ⟨RX6, "remember", "(III)V"⟩
abbrev cX6_happened : ByteArray := prog_8_method_4_code
def yX6_happened : MethodName := ⟨RX6, "happened", "()Z"⟩
def RX7 : String := "CordDoors$Ways"
def TX7 : u_T := fun k => match k with
  | 0 => ("CordDoors$Ways", "fewest", "[I", true)
  | 1 => ("CordDoors$Ways", "line", "[I", true)
  | _ => ("CordDoors$Ways", "inLine", "I", false)
def tyX7 : Nat → FieldType := fun k => match k with
  | 0 => .array .int
  | 1 => .array .int
  | _ => .int
abbrev wsX70 : List Cond := u_ws RX7 TX7 3
theorem nmX7 : ∀ a, a < 3 → ∀ b, b < 3 → a ≠ b → (TX7 a).2.1 ≠ (TX7 b).2.1 := by decide +kernel
theorem tyX7_ok : ∀ k, k < 3 → parseFieldDescriptor (TX7 k).2.2.1 = some (tyX7 k) := by decide +kernel
abbrev cX7_init : ByteArray := prog_9_method_1_code
def yX7_init : MethodName := ⟨RX7, "<init>", "()V"⟩
abbrev cX7_fromNowOn : ByteArray := prog_9_method_2_code
def yX7_fromNowOn : MethodName := ⟨RX7, "fromNowOn", "(LCordDoors$Loom;III)I"⟩
abbrev cX7_goOnFrom : ByteArray := prog_9_method_3_code
def yX7_goOnFrom : MethodName := ⟨RX7, "goOnFrom", "(LCordDoors$Loom;II)V"⟩
abbrev cX7_reach : ByteArray := prog_9_method_4_code
def yX7_reach : MethodName := ⟨RX7, "reach", "(II)V"⟩
abbrev cX7_fromHallBack : ByteArray := prog_9_method_5_code
def yX7_fromHallBack : MethodName := ⟨RX7, "fromHallBack", "(LCordDoors$Loom;III)I"⟩
abbrev cX7_lineUpSets : ByteArray := prog_9_method_6_code
def yX7_lineUpSets : MethodName := ⟨RX7, "lineUpSets", "(LCordDoors$Loom;I)V"⟩
abbrev cX7_lessenAll : ByteArray := prog_9_method_7_code
def yX7_lessenAll : MethodName := ⟨RX7, "lessenAll", "(LCordDoors$Loom;II)I"⟩
abbrev cX7_lessen : ByteArray := prog_9_method_8_code
def yX7_lessen : MethodName := ⟨RX7, "lessen", "(II)I"⟩
def RX8 : String := "CordDoors"
def TX8 : u_T := fun k => match k with
  | 0 => ("CordDoors", "now", "LCordDoors$State;", true)
  | 1 => ("CordDoors", "history", "LCordDoors$History;", true)
  | 2 => ("CordDoors", "snapshot", "LCordDoors$State;", true)
  | 3 => ("CordDoors", "snapshotTaken", "Z", false)
  | 4 => ("CordDoors", "pad", "LCordDoors$Pad;", true)
  | 5 => ("CordDoors", "stop", "LCordDoors$Stop;", true)
  | _ => ("CordDoors", "ways", "LCordDoors$Ways;", true)
def tyX8 : Nat → FieldType := fun k => match k with
  | 0 => .object "CordDoors$State"
  | 1 => .object "CordDoors$History"
  | 2 => .object "CordDoors$State"
  | 3 => .boolean
  | 4 => .object "CordDoors$Pad"
  | 5 => .object "CordDoors$Stop"
  | _ => .object "CordDoors$Ways"
abbrev wsX80 : List Cond := u_ws RX8 TX8 7
theorem nmX8 : ∀ a, a < 7 → ∀ b, b < 7 → a ≠ b → (TX8 a).2.1 ≠ (TX8 b).2.1 := by decide +kernel
theorem tyX8_ok : ∀ k, k < 7 → parseFieldDescriptor (TX8 k).2.2.1 = some (tyX8 k) := by decide +kernel
abbrev cX8_init : ByteArray := prog_1_method_1_code
def yX8_init : MethodName := ⟨RX8, "<init>", "()V"⟩
abbrev cX8_open : ByteArray := prog_1_method_2_code
def yX8_open : MethodName := ⟨RX8, "open", "(I)I"⟩
abbrev cX8_shut : ByteArray := prog_1_method_3_code
def yX8_shut : MethodName := ⟨RX8, "shut", "(I)I"⟩
abbrev cX8_cord : ByteArray := prog_1_method_4_code
def yX8_cord : MethodName := ⟨RX8, "cord", "(IZI)I"⟩
abbrev cX8_join : ByteArray := prog_1_method_5_code
def yX8_join : MethodName := ⟨RX8, "join", "(III)I"⟩
abbrev cX8_keys : ByteArray := prog_1_method_6_code
def yX8_keys : MethodName := ⟨RX8, "keys", "(II)I"⟩
abbrev cX8_draft : ByteArray := prog_1_method_7_code
def yX8_draft : MethodName := ⟨RX8, "draft", "(I)I"⟩
abbrev cX8_guestOpens : ByteArray := prog_1_method_8_code
def yX8_guestOpens : MethodName := ⟨RX8, "guestOpens", "(II)I"⟩
abbrev cX8_guestShuts : ByteArray := prog_1_method_9_code
def yX8_guestShuts : MethodName := ⟨RX8, "guestShuts", "(II)I"⟩
abbrev cX8_walk : ByteArray := prog_1_method_10_code
def yX8_walk : MethodName := ⟨RX8, "walk", "(II)I"⟩
abbrev cX8_append : ByteArray := prog_1_method_11_code
def yX8_append : MethodName := ⟨RX8, "append", "(I)I"⟩
abbrev cX8_clear : ByteArray := prog_1_method_12_code
def yX8_clear : MethodName := ⟨RX8, "clear", "()I"⟩
abbrev cX8_fault : ByteArray := prog_1_method_13_code
def yX8_fault : MethodName := ⟨RX8, "fault", "()I"⟩
abbrev cX8_run : ByteArray := prog_1_method_14_code
def yX8_run : MethodName := ⟨RX8, "run", "()I"⟩
abbrev cX8_why : ByteArray := prog_1_method_15_code
def yX8_why : MethodName := ⟨RX8, "why", "(I)I"⟩
abbrev cX8_door : ByteArray := prog_1_method_16_code
def yX8_door : MethodName := ⟨RX8, "door", "(II)I"⟩
abbrev cX8_hall : ByteArray := prog_1_method_17_code
def yX8_hall : MethodName := ⟨RX8, "hall", "(II)I"⟩
abbrev cX8_guest : ByteArray := prog_1_method_18_code
def yX8_guest : MethodName := ⟨RX8, "guest", "(II)I"⟩
abbrev cX8_whyNot : ByteArray := prog_1_method_19_code
def yX8_whyNot : MethodName := ⟨RX8, "whyNot", "(I)I"⟩
abbrev cX8_together : ByteArray := prog_1_method_20_code
def yX8_together : MethodName := ⟨RX8, "together", "(I)I"⟩
abbrev cX8_can : ByteArray := prog_1_method_21_code
def yX8_can : MethodName := ⟨RX8, "can", "(I)I"⟩
abbrev cX8_deeds : ByteArray := prog_1_method_22_code
def yX8_deeds : MethodName := ⟨RX8, "deeds", "(III)I"⟩
abbrev cX8_count : ByteArray := prog_1_method_23_code
def yX8_count : MethodName := ⟨RX8, "count", "(I)I"⟩
abbrev cX8_tightness : ByteArray := prog_1_method_24_code
def yX8_tightness : MethodName := ⟨RX8, "tightness", "()D"⟩
abbrev cX8_ifOpened : ByteArray := prog_1_method_25_code
def yX8_ifOpened : MethodName := ⟨RX8, "ifOpened", "(II)I"⟩
abbrev cX8_undo : ByteArray := prog_1_method_26_code
def yX8_undo : MethodName := ⟨RX8, "undo", "()I"⟩
abbrev cX8_save : ByteArray := prog_1_method_27_code
def yX8_save : MethodName := ⟨RX8, "save", "()I"⟩
abbrev cX8_restore : ByteArray := prog_1_method_28_code
def yX8_restore : MethodName := ⟨RX8, "restore", "()I"⟩
abbrev cX8_isDoor : ByteArray := prog_1_method_29_code
def yX8_isDoor : MethodName := ⟨RX8, "isDoor", "(I)Z"⟩
abbrev cX8_isHall : ByteArray := prog_1_method_30_code
def yX8_isHall : MethodName := ⟨RX8, "isHall", "(I)Z"⟩
abbrev cX8_isGuest : ByteArray := prog_1_method_31_code
def yX8_isGuest : MethodName := ⟨RX8, "isGuest", "(I)Z"⟩
abbrev cX8_isSetOfDoors : ByteArray := prog_1_method_32_code
def yX8_isSetOfDoors : MethodName := ⟨RX8, "isSetOfDoors", "(I)Z"⟩
abbrev cX8_has : ByteArray := prog_1_method_33_code
def yX8_has : MethodName := ⟨RX8, "has", "(II)Z"⟩
abbrev cX8_without : ByteArray := prog_1_method_34_code
def yX8_without : MethodName := ⟨RX8, "without", "(II)I"⟩
abbrev cX8_spot : ByteArray := prog_1_method_35_code
def yX8_spot : MethodName := ⟨RX8, "spot", "(II)I"⟩
abbrev cX8_doorOrNotFound : ByteArray := prog_1_method_36_code
def yX8_doorOrNotFound : MethodName := ⟨RX8, "doorOrNotFound", "(I)I"⟩
abbrev cX8_runDeedAt : ByteArray := prog_1_method_37_code
def yX8_runDeedAt : MethodName := ⟨RX8, "runDeedAt", "(I)I"⟩
abbrev cX8_mostOfAllSets : ByteArray := prog_1_method_38_code
def yX8_mostOfAllSets : MethodName := ⟨RX8, "mostOfAllSets", "()I"⟩
abbrev cX8_mostDoorByDoor : ByteArray := prog_1_method_39_code
def yX8_mostDoorByDoor : MethodName := ⟨RX8, "mostDoorByDoor", "(LCordDoors$Loom;II)I"⟩
def RX9 : String := "CordDoorsModel"
def TX9 : u_T := fun k => match k with
  | 0 => ("CordDoorsModel", "z", "[I", true)
  | 1 => ("CordDoorsModel", "spare", "[I", true)
  | 2 => ("CordDoorsModel", "past", "[I", true)
  | 3 => ("CordDoorsModel", "states", "I", false)
  | 4 => ("CordDoorsModel", "kept", "[I", true)
  | 5 => ("CordDoorsModel", "isKept", "Z", false)
  | 6 => ("CordDoorsModel", "pad", "[I", true)
  | 7 => ("CordDoorsModel", "typed", "I", false)
  | 8 => ("CordDoorsModel", "stopReason", "I", false)
  | 9 => ("CordDoorsModel", "stopNumber", "I", false)
  | 10 => ("CordDoorsModel", "stopAt", "I", false)
  | 11 => ("CordDoorsModel", "spot", "I", false)
  | 12 => ("CordDoorsModel", "told", "[I", true)
  | 13 => ("CordDoorsModel", "toldMany", "I", false)
  | 14 => ("CordDoorsModel", "fewest", "[I", true)
  | 15 => ("CordDoorsModel", "reached", "[I", true)
  | _ => ("CordDoorsModel", "reachedMany", "I", false)
def tyX9 : Nat → FieldType := fun k => match k with
  | 0 => .array .int
  | 1 => .array .int
  | 2 => .array .int
  | 3 => .int
  | 4 => .array .int
  | 5 => .boolean
  | 6 => .array .int
  | 7 => .int
  | 8 => .int
  | 9 => .int
  | 10 => .int
  | 11 => .int
  | 12 => .array .int
  | 13 => .int
  | 14 => .array .int
  | 15 => .array .int
  | _ => .int
abbrev wsX90 : List Cond := u_ws RX9 TX9 17
theorem nmX9 : ∀ a, a < 17 → ∀ b, b < 17 → a ≠ b → (TX9 a).2.1 ≠ (TX9 b).2.1 := by decide +kernel
theorem tyX9_ok : ∀ k, k < 17 → parseFieldDescriptor (TX9 k).2.2.1 = some (tyX9 k) := by decide +kernel
abbrev cX9_init : ByteArray := prog_11_method_1_code
def yX9_init : MethodName := ⟨RX9, "<init>", "()V"⟩
abbrev cX9_in : ByteArray := prog_11_method_2_code
def yX9_in : MethodName := ⟨RX9, "in", "(III)Z"⟩
abbrev cX9_isDoor : ByteArray := prog_11_method_3_code
def yX9_isDoor : MethodName := ⟨RX9, "isDoor", "(I)Z"⟩
abbrev cX9_isHall : ByteArray := prog_11_method_4_code
def yX9_isHall : MethodName := ⟨RX9, "isHall", "(I)Z"⟩
abbrev cX9_isGuest : ByteArray := prog_11_method_5_code
def yX9_isGuest : MethodName := ⟨RX9, "isGuest", "(I)Z"⟩
abbrev cX9_of : ByteArray := prog_11_method_6_code
def yX9_of : MethodName := ⟨RX9, "of", "(II)I"⟩
abbrev cX9_lay : ByteArray := prog_11_method_7_code
def yX9_lay : MethodName := ⟨RX9, "lay", "(III)V"⟩
abbrev cX9_ofGuest : ByteArray := prog_11_method_8_code
def yX9_ofGuest : MethodName := ⟨RX9, "ofGuest", "(II)I"⟩
abbrev cX9_isOpen : ByteArray := prog_11_method_9_code
def yX9_isOpen : MethodName := ⟨RX9, "isOpen", "(I)Z"⟩
abbrev cX9_joins : ByteArray := prog_11_method_10_code
def yX9_joins : MethodName := ⟨RX9, "joins", "(II)Z"⟩
abbrev cX9_goesTo : ByteArray := prog_11_method_11_code
def yX9_goesTo : MethodName := ⟨RX9, "goesTo", "(II)Z"⟩
abbrev cX9_copyState : ByteArray := prog_11_method_12_code
def yX9_copyState : MethodName := ⟨RX9, "copyState", "([II[II)V"⟩
abbrev cX9_record : ByteArray := prog_11_method_13_code
def yX9_record : MethodName := ⟨RX9, "record", "()V"⟩
abbrev cX9_undo : ByteArray := prog_11_method_14_code
def yX9_undo : MethodName := ⟨RX9, "undo", "()I"⟩
abbrev cX9_openSet : ByteArray := prog_11_method_15_code
def yX9_openSet : MethodName := ⟨RX9, "openSet", "()I"⟩
abbrev cX9_save : ByteArray := prog_11_method_16_code
def yX9_save : MethodName := ⟨RX9, "save", "()I"⟩
abbrev cX9_restore : ByteArray := prog_11_method_17_code
def yX9_restore : MethodName := ⟨RX9, "restore", "()I"⟩
abbrev cX9_cordsTo : ByteArray := prog_11_method_18_code
def yX9_cordsTo : MethodName := ⟨RX9, "cordsTo", "(IZ)I"⟩
abbrev cX9_reason : ByteArray := prog_11_method_19_code
def yX9_reason : MethodName := ⟨RX9, "reason", "(I)I"⟩
abbrev cX9_openIn : ByteArray := prog_11_method_20_code
def yX9_openIn : MethodName := ⟨RX9, "openIn", "(I)I"⟩
abbrev cX9_shuts : ByteArray := prog_11_method_21_code
def yX9_shuts : MethodName := ⟨RX9, "shuts", "(II)V"⟩
abbrev cX9_lowestIn : ByteArray := prog_11_method_22_code
def yX9_lowestIn : MethodName := ⟨RX9, "lowestIn", "(II)I"⟩
abbrev cX9_opens : ByteArray := prog_11_method_23_code
def yX9_opens : MethodName := ⟨RX9, "opens", "(I)I"⟩
abbrev cX9_refuse : ByteArray := prog_11_method_24_code
def yX9_refuse : MethodName := ⟨RX9, "refuse", "(I)I"⟩
abbrev cX9_openNow : ByteArray := prog_11_method_25_code
def yX9_openNow : MethodName := ⟨RX9, "openNow", "(I)I"⟩
abbrev cX9_shutNow : ByteArray := prog_11_method_26_code
def yX9_shutNow : MethodName := ⟨RX9, "shutNow", "(I)I"⟩
abbrev cX9_isAt : ByteArray := prog_11_method_27_code
def yX9_isAt : MethodName := ⟨RX9, "isAt", "(II)Z"⟩
abbrev cX9_hasKey : ByteArray := prog_11_method_28_code
def yX9_hasKey : MethodName := ⟨RX9, "hasKey", "(II)Z"⟩
abbrev cX9_guestOpensNow : ByteArray := prog_11_method_29_code
def yX9_guestOpensNow : MethodName := ⟨RX9, "guestOpensNow", "(II)I"⟩
abbrev cX9_guestShutsNow : ByteArray := prog_11_method_30_code
def yX9_guestShutsNow : MethodName := ⟨RX9, "guestShutsNow", "(II)I"⟩
abbrev cX9_across : ByteArray := prog_11_method_31_code
def yX9_across : MethodName := ⟨RX9, "across", "(II)I"⟩
abbrev cX9_walkNow : ByteArray := prog_11_method_32_code
def yX9_walkNow : MethodName := ⟨RX9, "walkNow", "(II)I"⟩
abbrev cX9_open : ByteArray := prog_11_method_33_code
def yX9_open : MethodName := ⟨RX9, "open", "(I)I"⟩
abbrev cX9_shut : ByteArray := prog_11_method_34_code
def yX9_shut : MethodName := ⟨RX9, "shut", "(I)I"⟩
abbrev cX9_guestOpens : ByteArray := prog_11_method_35_code
def yX9_guestOpens : MethodName := ⟨RX9, "guestOpens", "(II)I"⟩
abbrev cX9_guestShuts : ByteArray := prog_11_method_36_code
def yX9_guestShuts : MethodName := ⟨RX9, "guestShuts", "(II)I"⟩
abbrev cX9_walk : ByteArray := prog_11_method_37_code
def yX9_walk : MethodName := ⟨RX9, "walk", "(II)I"⟩
abbrev cX9_cord : ByteArray := prog_11_method_38_code
def yX9_cord : MethodName := ⟨RX9, "cord", "(IZI)I"⟩
abbrev cX9_lesserHall : ByteArray := prog_11_method_39_code
def yX9_lesserHall : MethodName := ⟨RX9, "lesserHall", "(I)I"⟩
abbrev cX9_greaterHall : ByteArray := prog_11_method_40_code
def yX9_greaterHall : MethodName := ⟨RX9, "greaterHall", "(I)I"⟩
abbrev cX9_join : ByteArray := prog_11_method_41_code
def yX9_join : MethodName := ⟨RX9, "join", "(III)I"⟩
abbrev cX9_keys : ByteArray := prog_11_method_42_code
def yX9_keys : MethodName := ⟨RX9, "keys", "(II)I"⟩
abbrev cX9_draft : ByteArray := prog_11_method_43_code
def yX9_draft : MethodName := ⟨RX9, "draft", "(I)I"⟩
abbrev cX9_append : ByteArray := prog_11_method_44_code
def yX9_append : MethodName := ⟨RX9, "append", "(I)I"⟩
abbrev cX9_clear : ByteArray := prog_11_method_45_code
def yX9_clear : MethodName := ⟨RX9, "clear", "()I"⟩
abbrev cX9_sees : ByteArray := prog_11_method_46_code
def yX9_sees : MethodName := ⟨RX9, "sees", "(II)Z"⟩
abbrev cX9_takes : ByteArray := prog_11_method_47_code
def yX9_takes : MethodName := ⟨RX9, "takes", "(I)Z"⟩
abbrev cX9_takesOne : ByteArray := prog_11_method_48_code
def yX9_takesOne : MethodName := ⟨RX9, "takesOne", "(II)I"⟩
abbrev cX9_readDeed : ByteArray := prog_11_method_49_code
def yX9_readDeed : MethodName := ⟨RX9, "readDeed", "()Z"⟩
abbrev cX9_readPad : ByteArray := prog_11_method_50_code
def yX9_readPad : MethodName := ⟨RX9, "readPad", "()Z"⟩
abbrev cX9_fault : ByteArray := prog_11_method_51_code
def yX9_fault : MethodName := ⟨RX9, "fault", "()I"⟩
abbrev cX9_doDeed : ByteArray := prog_11_method_52_code
def yX9_doDeed : MethodName := ⟨RX9, "doDeed", "(I)I"⟩
abbrev cX9_run : ByteArray := prog_11_method_53_code
def yX9_run : MethodName := ⟨RX9, "run", "()I"⟩
abbrev cX9_why : ByteArray := prog_11_method_54_code
def yX9_why : MethodName := ⟨RX9, "why", "(I)I"⟩
abbrev cX9_door : ByteArray := prog_11_method_55_code
def yX9_door : MethodName := ⟨RX9, "door", "(II)I"⟩
abbrev cX9_doorsOf : ByteArray := prog_11_method_56_code
def yX9_doorsOf : MethodName := ⟨RX9, "doorsOf", "(I)I"⟩
abbrev cX9_guestsIn : ByteArray := prog_11_method_57_code
def yX9_guestsIn : MethodName := ⟨RX9, "guestsIn", "(I)I"⟩
abbrev cX9_hangs : ByteArray := prog_11_method_58_code
def yX9_hangs : MethodName := ⟨RX9, "hangs", "(I)I"⟩
abbrev cX9_size : ByteArray := prog_11_method_59_code
def yX9_size : MethodName := ⟨RX9, "size", "(I)I"⟩
abbrev cX9_hall : ByteArray := prog_11_method_60_code
def yX9_hall : MethodName := ⟨RX9, "hall", "(II)I"⟩
abbrev cX9_canOpen : ByteArray := prog_11_method_61_code
def yX9_canOpen : MethodName := ⟨RX9, "canOpen", "(I)I"⟩
abbrev cX9_guest : ByteArray := prog_11_method_62_code
def yX9_guest : MethodName := ⟨RX9, "guest", "(II)I"⟩
abbrev cX9_whyNot : ByteArray := prog_11_method_63_code
def yX9_whyNot : MethodName := ⟨RX9, "whyNot", "(I)I"⟩
abbrev cX9_canBe : ByteArray := prog_11_method_64_code
def yX9_canBe : MethodName := ⟨RX9, "canBe", "(I)Z"⟩
abbrev cX9_can : ByteArray := prog_11_method_65_code
def yX9_can : MethodName := ⟨RX9, "can", "(I)I"⟩
abbrev cX9_together : ByteArray := prog_11_method_66_code
def yX9_together : MethodName := ⟨RX9, "together", "(I)I"⟩
abbrev cX9_laySet : ByteArray := prog_11_method_67_code
def yX9_laySet : MethodName := ⟨RX9, "laySet", "(I)V"⟩
abbrev cX9_reach : ByteArray := prog_11_method_68_code
def yX9_reach : MethodName := ⟨RX9, "reach", "(II)V"⟩
abbrev cX9_goOn : ByteArray := prog_11_method_69_code
def yX9_goOn : MethodName := ⟨RX9, "goOn", "(II)V"⟩
abbrev cX9_deeds : ByteArray := prog_11_method_70_code
def yX9_deeds : MethodName := ⟨RX9, "deeds", "(III)I"⟩
abbrev cX9_cords : ByteArray := prog_11_method_71_code
def yX9_cords : MethodName := ⟨RX9, "cords", "(Z)I"⟩
abbrev cX9_held : ByteArray := prog_11_method_72_code
def yX9_held : MethodName := ⟨RX9, "held", "()I"⟩
abbrev cX9_pairsOfHalls : ByteArray := prog_11_method_73_code
def yX9_pairsOfHalls : MethodName := ⟨RX9, "pairsOfHalls", "()I"⟩
abbrev cX9_pairsOfDoors : ByteArray := prog_11_method_74_code
def yX9_pairsOfDoors : MethodName := ⟨RX9, "pairsOfDoors", "()I"⟩
abbrev cX9_count : ByteArray := prog_11_method_75_code
def yX9_count : MethodName := ⟨RX9, "count", "(I)I"⟩
abbrev cX9_tightness : ByteArray := prog_11_method_76_code
def yX9_tightness : MethodName := ⟨RX9, "tightness", "()D"⟩
abbrev cX9_ifOpened : ByteArray := prog_11_method_77_code
def yX9_ifOpened : MethodName := ⟨RX9, "ifOpened", "(II)I"⟩
def RJ6 : String := "java/lang/Integer"
def TJ6 : u_T := fun k => match k with
  | _ => ("", "", "", false)
def tyJ6 : Nat → FieldType := fun k => match k with
  | _ => .int
abbrev wsJ60 : List Cond := u_ws RJ6 TJ6 0
theorem nmJ6 : ∀ a, a < 0 → ∀ b, b < 0 → a ≠ b → (TJ6 a).2.1 ≠ (TJ6 b).2.1 := by decide +kernel
theorem tyJ6_ok : ∀ k, k < 0 → parseFieldDescriptor (TJ6 k).2.2.1 = some (tyJ6 k) := by decide +kernel
abbrev cJ6_bitCount_0f7a4 : ByteArray := prog_12_method_49_code
def yJ6_bitCount_0f7a4 : MethodName := ⟨RJ6, "bitCount", "(I)I"⟩
def RJ9 : String := "java/lang/Math"
def TJ9 : u_T := fun k => match k with
  | _ => ("", "", "", false)
def tyJ9 : Nat → FieldType := fun k => match k with
  | _ => .int
abbrev wsJ90 : List Cond := u_ws RJ9 TJ9 0
theorem nmJ9 : ∀ a, a < 0 → ∀ b, b < 0 → a ≠ b → (TJ9 a).2.1 ≠ (TJ9 b).2.1 := by decide +kernel
theorem tyJ9_ok : ∀ k, k < 0 → parseFieldDescriptor (TJ9 k).2.2.1 = some (tyJ9 k) := by decide +kernel
abbrev cJ9_max_7cf53 : ByteArray := prog_13_method_65_code
def yJ9_max_7cf53 : MethodName := ⟨RJ9, "max", "(II)I"⟩
abbrev cJ9_min_7cf53 : ByteArray := prog_13_method_69_code
def yJ9_min_7cf53 : MethodName := ⟨RJ9, "min", "(II)I"⟩
def RJ10 : String := "java/lang/System"
def TJ10 : u_T := fun k => match k with
  | _ => ("", "", "", false)
def tyJ10 : Nat → FieldType := fun k => match k with
  | _ => .int
abbrev wsJ100 : List Cond := u_ws RJ10 TJ10 0
theorem nmJ10 : ∀ a, a < 0 → ∀ b, b < 0 → a ≠ b → (TJ10 a).2.1 ≠ (TJ10 b).2.1 := by decide +kernel
theorem tyJ10_ok : ∀ k, k < 0 → parseFieldDescriptor (TJ10 k).2.2.1 = some (tyJ10 k) := by decide +kernel
def RJ7 : String := "java/util/Arrays"
def TJ7 : u_T := fun k => match k with
  | _ => ("", "", "", false)
def tyJ7 : Nat → FieldType := fun k => match k with
  | _ => .int
abbrev wsJ70 : List Cond := u_ws RJ7 TJ7 0
theorem nmJ7 : ∀ a, a < 0 → ∀ b, b < 0 → a ≠ b → (TJ7 a).2.1 ≠ (TJ7 b).2.1 := by decide +kernel
theorem tyJ7_ok : ∀ k, k < 0 → parseFieldDescriptor (TJ7 k).2.2.1 = some (tyJ7 k) := by decide +kernel
abbrev cJ7_fill_53178 : ByteArray := prog_15_method_103_code
def yJ7_fill_53178 : MethodName := ⟨RJ7, "fill", "([II)V"⟩
def RL : String := "CordDoorsLaw"
abbrev cL_law : ByteArray := code
def yL_law : MethodName := ⟨RL, "law", "([I)Z"⟩
abbrev vwCl : List vw_C := [(RX0, TX0, 7), (RX1, TX1, 3), (RX2, TX2, 3), (RX3, TX3, 6), (RX4, TX4, 2), (RX5, TX5, 4), (RX6, TX6, 3), (RX7, TX7, 3), (RX8, TX8, 7), (RX9, TX9, 17)]
end
section
theorem va_P.perm {D : va_G} {cl : List vw_C} {w1 w2 : va_W} {H : Heap} (h : w1.Perm w2) (hP : va_P D cl w1 H) : va_P D cl w2 H := by
  intro k q hk
  obtain ⟨i, hi⟩ := List.getElem?_of_mem (h.symm.mem_iff.mp (List.mem_of_getElem? hk))
  exact hP i q hi
theorem va_P.left {D : va_G} {cl : List vw_C} {w1 w2 : va_W} {H : Heap} (hP : va_P D cl (w1 ++ w2) H) : va_P D cl w1 H := by
  intro k q hk
  obtain ⟨i, hi⟩ := List.getElem?_of_mem (List.mem_append_left w2 (List.mem_of_getElem? hk))
  exact hP i q hi
theorem va_P.right {D : va_G} {cl : List vw_C} {w1 w2 : va_W} {H : Heap} (hP : va_P D cl (w1 ++ w2) H) : va_P D cl w2 H := by
  intro k q hk
  obtain ⟨i, hi⟩ := List.getElem?_of_mem (List.mem_append_right w1 (List.mem_of_getElem? hk))
  exact hP i q hi
/-- the addresses are apart: as a list without doubles -/
theorem va_D.iff {A : Nat → Prop} {ws : va_W} : va_D A ws ↔ (ws.map (fun q => q.1)).Nodup ∧ ∀ q ∈ ws, A q.1 := by
  constructor
  · rintro ⟨h1, h2⟩
    refine ⟨?_, fun q hq => ?_⟩
    · show List.Pairwise _ _
      rw [List.pairwise_iff_getElem]
      intro i j hi hj hij he
      rw [List.length_map] at hi hj
      rw [List.getElem_map, List.getElem_map] at he
      have := h1 i j ws[i] ws[j] (List.getElem?_eq_getElem hi) (List.getElem?_eq_getElem hj) he
      omega
    · obtain ⟨i, hi⟩ := List.getElem?_of_mem hq
      exact h2 i q hi
  · rintro ⟨h1, h2⟩
    refine ⟨fun i j x y hi hj hxy => ?_, fun k q hk => h2 q (List.mem_of_getElem? hk)⟩
    have h1 : List.Pairwise _ _ := h1
    rw [List.pairwise_iff_getElem] at h1
    obtain ⟨li, ei⟩ := List.getElem?_eq_some_iff.mp hi
    obtain ⟨lj, ej⟩ := List.getElem?_eq_some_iff.mp hj
    rcases Nat.lt_trichotomy i j with h | h | h
    · exact absurd (by rw [List.getElem_map, List.getElem_map, ei, ej]; exact hxy) (h1 i j (by rw [List.length_map]; exact li) (by rw [List.length_map]; exact lj) h)
    · exact h
    · exact absurd (by rw [List.getElem_map, List.getElem_map, ei, ej]; exact hxy.symm) (h1 j i (by rw [List.length_map]; exact lj) (by rw [List.length_map]; exact li) h)
theorem va_D.perm {A : Nat → Prop} {w1 w2 : va_W} (h : w1.Perm w2) (hD : va_D A w1) : va_D A w2 := by
  rw [va_D.iff] at hD ⊢
  exact ⟨(h.map _).nodup_iff.mp hD.1, fun q hq => hD.2 q (h.symm.mem_iff.mp hq)⟩
theorem va_D.left {A : Nat → Prop} {w1 w2 : va_W} (hD : va_D A (w1 ++ w2)) : va_D A w1 := by
  rw [va_D.iff] at hD ⊢
  rw [List.map_append] at hD
  exact ⟨(List.nodup_append.mp hD.1).1, fun q hq => hD.2 q (List.mem_append_left _ hq)⟩
theorem va_D.right {A : Nat → Prop} {w1 w2 : va_W} (hD : va_D A (w1 ++ w2)) : va_D A w2 := by
  rw [va_D.iff] at hD ⊢
  rw [List.map_append] at hD
  exact ⟨(List.nodup_append.mp hD.1).2.1, fun q hq => hD.2 q (List.mem_append_right _ hq)⟩
theorem va_D.apart {A : Nat → Prop} {w1 w2 : va_W} {i j a : Nat} {x : va_E} {q : Nat × va_E} (hD : va_D A (w1 ++ w2)) (h1 : w1[i]? = some (a, x)) (h2 : w2[j]? = some q) (h3 : a = q.1) : False := by
  have li := (List.getElem?_eq_some_iff.mp h1).1
  have := hD.1 i (w1.length + j) (a, x) q (by rw [List.getElem?_append_left li]; exact h1) (by rw [List.getElem?_append_right (by omega)]; rw [show w1.length + j - w1.length = j by omega]; exact h2) h3
  omega
/-- the good words of the tables -/
def ub : List Cond := lw_tbl.filter goodWord
theorem ub_mem {w : Cond} (i : Nat) (h : lw_tbl[i]? = some w) (hg : goodWord w = true) : w ∈ ub := List.mem_filter.mpr ⟨List.mem_of_getElem? h, hg⟩
theorem ub_good {ws : List Cond} (h : ∀ w ∈ ws, w ∈ ub) : GoodIn ub ws := fun w hw => ⟨h w hw, good_of_word (List.mem_filter.mp (h w hw)).2⟩
theorem ub_cons {c : Cond} (h : c ∈ ub) : GoodIn ub (c :: ub) := ub_good (fun w hw => (List.mem_cons.mp hw).elim (fun e => e ▸ h) id)
def isNest : Cond → Bool
  | .fieldLinkNest .. => true
  | .methodLinkNest .. => true
  | _ => false
def nwL : List Cond := lw_tbl.filter isNest
/-- the words of nest mates -/
def NW (U : State) : Prop := (∀ w ∈ nwL, va_Nw w U) ∧ va_AO RX5 U
theorem nw_mem {w : Cond} (i : Nat) (h : lw_tbl[i]? = some w) (hg : isNest w = true) : w ∈ nwL := List.mem_filter.mpr ⟨List.mem_of_getElem? h, hg⟩
theorem NW.warm {s U : State} (hW : s.WarmedH U.vm) (h : NW s) : NW U := by
  refine ⟨?_, va_AO.moved hW.alike h.2⟩
  intro w hw
  have h1 := (List.mem_filter.mp hw).2
  have h2 := h.1 w hw
  cases w <;> first | exact va_Nw.warmF hW h2 | exact va_Nw.warmM hW h2 | (simp [isNest] at h1)
theorem NW.calling {U : State} {g : JFrame} {mk : MethodId} {a : Array Value} (h : NW U) : NW (U.calling g mk a) := by
  refine ⟨?_, va_AO.moved (u := U) (Vm.Alike.refl U.vm) h.2⟩
  intro w hw
  have h1 := (List.mem_filter.mp hw).2
  have h2 := h.1 w hw
  refine va_Nw.same (u := U) ?_ rfl h2
  cases w <;> first | rfl | (simp [isNest] at h1)
theorem NW.of {A : Array Value} {U : State} (h : ∀ w ∈ lw_tbl, w.before A U = true) : NW U := by
  refine ⟨?_, va_AO.of (h (.arrayOver (.object RX5)) (by decide +kernel))⟩
  intro w hw
  have h1 := (List.mem_filter.mp hw).2
  refine va_Nw.of ?_ (h w (List.mem_filter.mp hw).1)
  cases w <;> first | rfl | (simp [isNest] at h1)
abbrev GG : Type := va_G × ClassId × ClassId
abbrev GK (G : GG) (U : State) : Prop := va_K G.1 vwCl [(G.2.1, .int), (G.2.2, .object RX5)] U
/-- what a walk has at hand -/
abbrev Fx (p : Program) (m : MethodId) (c : Code) (cc : ByteArray) (nL : Nat) (s : State) (args : Array Value) (own : String) (meth : Method) (rt : Option FieldType) (G : GG) (A : Nat → Prop) : Prop :=
  CallFix p m c cc nL s args ub own ∧ meth.sig.returnType = rt ∧ meth.locks = false ∧ GK G s ∧ NW s ∧ ∀ q, s.heap.size ≤ q → A q
def V (p : Program) (l : Launch) (e : Env) (R : Room) (s : State) (m : MethodId) (args : Array Value) (below : List Frame) (meth : Method) (c : Code) (G : GG) (A : Nat → Prop) (nL k n : Nat) (Q : State → Prop) (ws : va_W) (pc : Nat) (lv : List (Nat × Value)) (st : List Value) : Prop :=
  ∀ (H : Heap) (locs : List Loc) (ls : Array Slot), va_P G.1 vwCl ws H → va_D A ws → va_S A s.heap H locs → lv_has ls nL lv → W p l e R s m args below meth c H locs k n Q (F0 m pc ls st)
/-- an end of a method -/
def EQ (G : GG) (C : va_W) (sz : Nat) (Pq : Option Value → va_W → Prop) : Array Value → State → Outcome → State → Prop := fun _ st oc t =>
  (∃ (v : Option Value) (w : va_W), oc = .returned v ∧ Pq v w ∧ va_P G.1 vwCl w t.heap ∧ GK G t ∧ va_D (va_A C sz) w) ∧ va_F (va_A C sz) st t
/-- a contract -/
def Con (l : Launch) (G : GG) (y : MethodName) (b : ByteArray) (nL : Nat) (rt : Option FieldType) (rm : Room) (av : List Value) (C : va_W) (Pq : Option Value → va_W → Prop) (mc ms : Nat) : Prop :=
  ∀ sz : Nat, Met l y (.code y b nL rt :: ub) rm (va_Pc av (fun U => U.heap.size = sz ∧ va_P G.1 vwCl C U.heap ∧ GK G U ∧ va_D (fun _ => True) C ∧ NW U)) (EQ G C sz Pq) mc ms (va_A C sz)
def PI {S : Type} (wf : S → va_W) (Q : Int32 → S → Prop) : Option Value → va_W → Prop := fun v w => ∃ (r : Int32) (u : S), v = some (.int r) ∧ w = wf u ∧ Q r u
def PB {S : Type} (wf : S → va_W) (Q : Int32 → S → Prop) : Option Value → va_W → Prop := fun v w => ∃ (r : Int32) (u : S), v = some (.int r) ∧ narrow .boolean (.int r) = .int r ∧ w = wf u ∧ Q r u
def PD {S : Type} (wf : S → va_W) (Q : UInt64 → S → Prop) : Option Value → va_W → Prop := fun v w => ∃ (r : UInt64) (u : S), v = some (.double r) ∧ w = wf u ∧ Q r u
def PV {S : Type} (wf : S → va_W) (Q : S → Prop) : Option Value → va_W → Prop := fun v w => ∃ (u : S), v = none ∧ w = wf u ∧ Q u
theorem pi {S : Type} {wf : S → va_W} {Q : Int32 → S → Prop} {P : Option Value → va_W → Prop} (h : ∀ r u, Q r u → P (some (.int r)) (wf u)) : ∀ v w, PI wf Q v w → P v w := by
  rintro v w ⟨r, u, rfl, rfl, hq⟩; exact h r u hq
theorem pb {S : Type} {wf : S → va_W} {Q : Int32 → S → Prop} {P : Option Value → va_W → Prop} (h : ∀ r u, narrow .boolean (.int r) = .int r → Q r u → P (some (.int r)) (wf u)) : ∀ v w, PB wf Q v w → P v w := by
  rintro v w ⟨r, u, rfl, hr, rfl, hq⟩; exact h r u hr hq
theorem pd {S : Type} {wf : S → va_W} {Q : UInt64 → S → Prop} {P : Option Value → va_W → Prop} (h : ∀ r u, Q r u → P (some (.double r)) (wf u)) : ∀ v w, PD wf Q v w → P v w := by
  rintro v w ⟨r, u, rfl, rfl, hq⟩; exact h r u hq
theorem pv {S : Type} {wf : S → va_W} {Q : S → Prop} {P : Option Value → va_W → Prop} (h : ∀ u, Q u → P none (wf u)) : ∀ v w, PV wf Q v w → P v w := by
  rintro v w ⟨u, rfl, rfl, hq⟩; exact h u hq
/-- what the tables say of a class's field, by a link -/
abbrev GF (own : String) (idx ci k : Nat) : Prop := ∃ (C : String) (T : u_T) (N : Nat), vwCl[ci]? = some (C, T, N) ∧ (∀ w ∈ u_ws C T N, w ∈ ub) ∧ k < N ∧ Cond.fieldLink own idx (T k).1 (T k).2.1 (T k).2.2.1 ∈ ub
abbrev GFN (own : String) (idx ci k : Nat) : Prop := ∃ (C : String) (T : u_T) (N : Nat) (host : String), vwCl[ci]? = some (C, T, N) ∧ (∀ w ∈ u_ws C T N, w ∈ ub) ∧ k < N ∧ Cond.fieldLinkNest own idx (T k).1 (T k).2.1 (T k).2.2.1 host ∈ nwL
/-- and to write it -/
abbrev PFc (ci k : Nat) (fin : Bool) (ty : FieldType) : Prop := ∃ (C : String) (T : u_T) (N : Nat) (ty0 : Nat → FieldType), vwCl[ci]? = some (C, T, N) ∧ (∀ j, j < N → parseFieldDescriptor (T j).2.2.1 = some (ty0 j)) ∧ (∀ a, a < N → ∀ b, b < N → a ≠ b → (T a).2.1 ≠ (T b).2.1) ∧ (T k).2.2.2 = fin ∧ parseFieldDescriptor (T k).2.2.1 = some ty ∧ (T k).1 = C
/-- a callee's words -/
abbrev MF (y : MethodName) (b : ByteArray) (nL : Nat) (rt : Option FieldType) (n : Nat) : Prop := Cond.code y b nL rt ∈ ub ∧ Cond.initialized y.cls ∈ ub ∧ (y.cls ≠ "java/lang/invoke/MethodHandle" ∧ y.cls ≠ "java/lang/invoke/VarHandle" ∧ (parseMethodDescriptor y.desc).map (fun d => d.parameters.length) = some n)
/-- how a callee's cells lie in the caller's world -/
def FrM (ws C Rs : va_W) (wf : va_W → va_W) : Prop := ws.Perm (C ++ Rs) ∧ ∀ w : va_W, (w ++ Rs).Perm (wf w)
theorem frW (C : va_W) : FrM C C [] (fun w => w) := ⟨by rw [List.append_nil], fun w => by rw [List.append_nil]⟩
theorem frM (L2 C R2 : va_W) : FrM (L2 ++ (C ++ R2)) C (L2 ++ R2) (fun w => L2 ++ (w ++ R2)) := ⟨List.perm_append_comm_assoc L2 C R2, fun w => (List.perm_append_comm_assoc L2 w R2).symm⟩
theorem frP {ws C Rs : va_W} (h : ws.Perm (C ++ Rs)) : FrM ws C Rs (fun w => w ++ Rs) := ⟨h, fun w => List.Perm.refl _⟩
/-- pieces of a world in another order -/
theorem gperm (gs : List va_W) (is : List Nat) (h : is.isPerm (List.range gs.length) = true) : gs.flatten.Perm ((is.map (fun i => gs.getD i [])).flatten) := by
  refine List.Perm.flatten ?_
  have h1 : (List.range gs.length).map (fun i => gs.getD i []) = gs := by
    apply List.ext_getElem
    · simp
    · intro i h1 h2
      simp [h2]
  have h2 := (List.isPerm_iff.mp h).map (fun i => gs.getD i [])
  rw [h1] at h2
  exact h2.symm
section VRows
variable {p : Program} {l : Launch} {e : Env} {R : Room} {s : State} {m : MethodId} {args : Array Value} {below : List Frame} {meth : Method} {c : Code} {G : GG} {A : Nat → Prop} {nL k n : Nat} {Q : State → Prop} {ws ws2 : va_W} {pc pc2 : Nat} {lv lv2 : List (Nat × Value)} {st : List Value} {cc : ByteArray} {own : String} {rt : Option FieldType}
theorem v_to (ws2 : va_W) (pc2 : Nat) (lv2 : List (Nat × Value)) (st st2 : List Value) (h1 : ws = ws2) (h2 : pc = pc2) (h3 : lv = lv2) (h4 : st = st2) (kk : V p l e R s m args below meth c G A nL k n Q ws2 pc2 lv2 st2) : V p l e R s m args below meth c G A nL k n Q ws pc lv st := by
  subst h1; subst h2; subst h3; subst h4; exact kk
theorem v_lv (lv2 : List (Nat × Value)) (ks : List Nat) (h : lv_pick lv ks = lv2) (kk : V p l e R s m args below meth c G A nL k n Q ws pc lv2 st) : V p l e R s m args below meth c G A nL k n Q ws pc lv st :=
  fun H locs ls hP hD hS hl => kk H locs ls hP hD hS (lv_sub hl ks h)
theorem v_widen {k2 n2 : Nat} (h1 : k ≤ k2) (h2 : n ≤ n2) (kk : V p l e R s m args below meth c G A nL k2 n2 Q ws pc lv st) : V p l e R s m args below meth c G A nL k n Q ws pc lv st :=
  fun H locs ls hP hD hS hl => W.widen h1 h2 (kk H locs ls hP hD hS hl)

theorem v_iload_n (S : Fx p m c cc nL s args own meth rt G A) {i : Fin 4} {j : Nat} {x : Int32} (k0 : Nat) (hdg : decode cc pc = .ok (.iload_n i, 1)) (hi : (i : Nat) = j) (hk : lv[k0]? = some (j, .int x)) (hp : pc + 1 = pc2) (kk : V p l e R s m args below meth c G A nL k n Q ws pc2 lv (.int x :: st)) : V p l e R s m args below meth c G A nL k n Q ws pc lv (st) := by
  subst hp; exact fun H locs ls hP hD hS hl => lv_iload_n S.1.1 S.1.2.1 hdg hi (lv_at hl k0 hk) (kk H locs ls hP hD hS hl)
theorem v_iload (S : Fx p m c cc nL s args own meth rt G A) {j : Nat} {x : Int32} (k0 : Nat) (hdg : decode cc pc = .ok (.iload j, 2)) (hk : lv[k0]? = some (j, .int x)) (hp : pc + 2 = pc2) (kk : V p l e R s m args below meth c G A nL k n Q ws pc2 lv (.int x :: st)) : V p l e R s m args below meth c G A nL k n Q ws pc lv (st) := by
  subst hp; exact fun H locs ls hP hD hS hl => lv_iload S.1.1 S.1.2.1 hdg (lv_at hl k0 hk) (kk H locs ls hP hD hS hl)
theorem v_aload_n (S : Fx p m c cc nL s args own meth rt G A) {i : Fin 4} {j : Nat} {x : Nat} (k0 : Nat) (hdg : decode cc pc = .ok (.aload_n i, 1)) (hi : (i : Nat) = j) (hk : lv[k0]? = some (j, .ref x)) (hp : pc + 1 = pc2) (kk : V p l e R s m args below meth c G A nL k n Q ws pc2 lv (.ref x :: st)) : V p l e R s m args below meth c G A nL k n Q ws pc lv (st) := by
  subst hp; exact fun H locs ls hP hD hS hl => lv_aload_n S.1.1 S.1.2.1 hdg hi (lv_at hl k0 hk) (kk H locs ls hP hD hS hl)
theorem v_aload (S : Fx p m c cc nL s args own meth rt G A) {j : Nat} {x : Nat} (k0 : Nat) (hdg : decode cc pc = .ok (.aload j, 2)) (hk : lv[k0]? = some (j, .ref x)) (hp : pc + 2 = pc2) (kk : V p l e R s m args below meth c G A nL k n Q ws pc2 lv (.ref x :: st)) : V p l e R s m args below meth c G A nL k n Q ws pc lv (st) := by
  subst hp; exact fun H locs ls hP hD hS hl => lv_aload S.1.1 S.1.2.1 hdg (lv_at hl k0 hk) (kk H locs ls hP hD hS hl)
theorem v_istore_n (S : Fx p m c cc nL s args own meth rt G A) {i : Fin 4} {j : Nat} {x : Int32} (hdg : decode cc pc = .ok (.istore_n i, 1)) (hi : (i : Nat) = j) (hn : j < nL) (ks : List Nat) (h2 : lv_pick ((j, Value.int x) :: lv.filter (fun q => !(q.1 == j) && !(q.1 + 1 == j && q.2.category == 2))) ks = lv2) (hp : pc + 1 = pc2) (kk : V p l e R s m args below meth c G A nL k n Q ws pc2 lv2 st) : V p l e R s m args below meth c G A nL k n Q ws pc lv (.int x :: st) := by
  subst hp; exact fun H locs ls hP hD hS hl => lv_istore_n S.1.1 S.1.2.1 hdg hi hl hn rfl (fun ls hl => kk H locs ls hP hD hS (lv_sub hl ks h2))
theorem v_istore (S : Fx p m c cc nL s args own meth rt G A) {j : Nat} {x : Int32} (hdg : decode cc pc = .ok (.istore j, 2))  (hn : j < nL) (ks : List Nat) (h2 : lv_pick ((j, Value.int x) :: lv.filter (fun q => !(q.1 == j) && !(q.1 + 1 == j && q.2.category == 2))) ks = lv2) (hp : pc + 2 = pc2) (kk : V p l e R s m args below meth c G A nL k n Q ws pc2 lv2 st) : V p l e R s m args below meth c G A nL k n Q ws pc lv (.int x :: st) := by
  subst hp; exact fun H locs ls hP hD hS hl => lv_istore S.1.1 S.1.2.1 hdg hl hn rfl (fun ls hl => kk H locs ls hP hD hS (lv_sub hl ks h2))
theorem v_astore_n (S : Fx p m c cc nL s args own meth rt G A) {i : Fin 4} {j : Nat} {x : Nat} (hdg : decode cc pc = .ok (.astore_n i, 1)) (hi : (i : Nat) = j) (hn : j < nL) (ks : List Nat) (h2 : lv_pick ((j, Value.ref x) :: lv.filter (fun q => !(q.1 == j) && !(q.1 + 1 == j && q.2.category == 2))) ks = lv2) (hp : pc + 1 = pc2) (kk : V p l e R s m args below meth c G A nL k n Q ws pc2 lv2 st) : V p l e R s m args below meth c G A nL k n Q ws pc lv (.ref x :: st) := by
  subst hp; exact fun H locs ls hP hD hS hl => lv_astore_n S.1.1 S.1.2.1 hdg hi hl hn rfl (fun ls hl => kk H locs ls hP hD hS (lv_sub hl ks h2))
theorem v_astore (S : Fx p m c cc nL s args own meth rt G A) {j : Nat} {x : Nat} (hdg : decode cc pc = .ok (.astore j, 2))  (hn : j < nL) (ks : List Nat) (h2 : lv_pick ((j, Value.ref x) :: lv.filter (fun q => !(q.1 == j) && !(q.1 + 1 == j && q.2.category == 2))) ks = lv2) (hp : pc + 2 = pc2) (kk : V p l e R s m args below meth c G A nL k n Q ws pc2 lv2 st) : V p l e R s m args below meth c G A nL k n Q ws pc lv (.ref x :: st) := by
  subst hp; exact fun H locs ls hP hD hS hl => lv_astore S.1.1 S.1.2.1 hdg hl hn rfl (fun ls hl => kk H locs ls hP hD hS (lv_sub hl ks h2))
theorem v_iinc (S : Fx p m c cc nL s args own meth rt G A) {j : Nat} {d : Int} {x v : Int32} (k0 : Nat) (hdg : decode cc pc = .ok (.iinc j d, 3)) (hk : lv[k0]? = some (j, .int x)) (hv : x + Int32.ofInt d = v) (hn : j < nL) (ks : List Nat) (h2 : lv_pick ((j, Value.int v) :: lv.filter (fun q => !(q.1 == j) && !(q.1 + 1 == j && q.2.category == 2))) ks = lv2) (hp : pc + 3 = pc2) (kk : V p l e R s m args below meth c G A nL k n Q ws pc2 lv2 st) : V p l e R s m args below meth c G A nL k n Q ws pc lv st := by
  subst hp; exact fun H locs ls hP hD hS hl => lv_iinc S.1.1 S.1.2.1 hdg hl hk hv hn rfl (fun ls hl => kk H locs ls hP hD hS (lv_sub hl ks h2))
theorem v_iconst (S : Fx p m c cc nL s args own meth rt G A) {d : Int} {v : Int32} (hdg : decode cc pc = .ok (.iconst d, 1)) (hv : Int32.ofInt d = v) (hp : pc + 1 = pc2) (kk : V p l e R s m args below meth c G A nL k n Q ws pc2 lv (.int v :: st)) : V p l e R s m args below meth c G A nL k n Q ws pc lv (st) := by
  subst hp; exact fun H locs ls hP hD hS hl => lv_iconst S.1.1 S.1.2.1 hdg hv (kk H locs ls hP hD hS hl)
theorem v_bipush (S : Fx p m c cc nL s args own meth rt G A) {d : Int} {v : Int32} (hdg : decode cc pc = .ok (.bipush d, 2)) (hv : (Int8.ofInt d).toInt32 = v) (hp : pc + 2 = pc2) (kk : V p l e R s m args below meth c G A nL k n Q ws pc2 lv (.int v :: st)) : V p l e R s m args below meth c G A nL k n Q ws pc lv (st) := by
  subst hp; exact fun H locs ls hP hD hS hl => lv_bipush S.1.1 S.1.2.1 hdg hv (kk H locs ls hP hD hS hl)
theorem v_sipush (S : Fx p m c cc nL s args own meth rt G A) {d : Int} {v : Int32} (hdg : decode cc pc = .ok (.sipush d, 3)) (hv : (Int16.ofInt d).toInt32 = v) (hp : pc + 3 = pc2) (kk : V p l e R s m args below meth c G A nL k n Q ws pc2 lv (.int v :: st)) : V p l e R s m args below meth c G A nL k n Q ws pc lv (st) := by
  subst hp; exact fun H locs ls hP hD hS hl => lv_sipush S.1.1 S.1.2.1 hdg hv (kk H locs ls hP hD hS hl)
theorem v_ldcw (S : Fx p m c cc nL s args own meth rt G A) {index : Nat} {v : Int32} (hc : Cond.constant own index v ∈ ub) (hdg : decode cc pc = .ok (.ldc_w index, 3)) (hp : pc + 3 = pc2) (kk : V p l e R s m args below meth c G A nL k n Q ws pc2 lv (.int v :: st)) : V p l e R s m args below meth c G A nL k n Q ws pc lv (st) := by
  subst hp; exact fun H locs ls hP hD hS hl => lv_ldcw S.1.1 S.1.2.1 S.1.2.2.2.1 (S.1.2.2.2.2 _ hc) hdg (kk H locs ls hP hD hS hl)
theorem v_iadd (S : Fx p m c cc nL s args own meth rt G A) {x y : Int32} (hdg : decode cc pc = .ok (.iadd, 1)) (hp : pc + 1 = pc2) (kk : V p l e R s m args below meth c G A nL k n Q ws pc2 lv (.int (x + y) :: st)) : V p l e R s m args below meth c G A nL k n Q ws pc lv (.int y :: .int x :: st) := by
  subst hp; exact fun H locs ls hP hD hS hl => lv_iadd S.1.1 S.1.2.1 hdg (kk H locs ls hP hD hS hl)
theorem v_isub (S : Fx p m c cc nL s args own meth rt G A) {x y : Int32} (hdg : decode cc pc = .ok (.isub, 1)) (hp : pc + 1 = pc2) (kk : V p l e R s m args below meth c G A nL k n Q ws pc2 lv (.int (x - y) :: st)) : V p l e R s m args below meth c G A nL k n Q ws pc lv (.int y :: .int x :: st) := by
  subst hp; exact fun H locs ls hP hD hS hl => lv_isub S.1.1 S.1.2.1 hdg (kk H locs ls hP hD hS hl)
theorem v_imul (S : Fx p m c cc nL s args own meth rt G A) {x y : Int32} (hdg : decode cc pc = .ok (.imul, 1)) (hp : pc + 1 = pc2) (kk : V p l e R s m args below meth c G A nL k n Q ws pc2 lv (.int (x * y) :: st)) : V p l e R s m args below meth c G A nL k n Q ws pc lv (.int y :: .int x :: st) := by
  subst hp; exact fun H locs ls hP hD hS hl => lv_imul S.1.1 S.1.2.1 hdg (kk H locs ls hP hD hS hl)
theorem v_iand (S : Fx p m c cc nL s args own meth rt G A) {x y : Int32} (hdg : decode cc pc = .ok (.iand, 1)) (hp : pc + 1 = pc2) (kk : V p l e R s m args below meth c G A nL k n Q ws pc2 lv (.int (x &&& y) :: st)) : V p l e R s m args below meth c G A nL k n Q ws pc lv (.int y :: .int x :: st) := by
  subst hp; exact fun H locs ls hP hD hS hl => lv_iand S.1.1 S.1.2.1 hdg (kk H locs ls hP hD hS hl)
theorem v_ior (S : Fx p m c cc nL s args own meth rt G A) {x y : Int32} (hdg : decode cc pc = .ok (.ior, 1)) (hp : pc + 1 = pc2) (kk : V p l e R s m args below meth c G A nL k n Q ws pc2 lv (.int (x ||| y) :: st)) : V p l e R s m args below meth c G A nL k n Q ws pc lv (.int y :: .int x :: st) := by
  subst hp; exact fun H locs ls hP hD hS hl => lv_ior S.1.1 S.1.2.1 hdg (kk H locs ls hP hD hS hl)
theorem v_ixor (S : Fx p m c cc nL s args own meth rt G A) {x y : Int32} (hdg : decode cc pc = .ok (.ixor, 1)) (hp : pc + 1 = pc2) (kk : V p l e R s m args below meth c G A nL k n Q ws pc2 lv (.int (x ^^^ y) :: st)) : V p l e R s m args below meth c G A nL k n Q ws pc lv (.int y :: .int x :: st) := by
  subst hp; exact fun H locs ls hP hD hS hl => lv_ixor S.1.1 S.1.2.1 hdg (kk H locs ls hP hD hS hl)
theorem v_ishl (S : Fx p m c cc nL s args own meth rt G A) {x y : Int32} (hdg : decode cc pc = .ok (.ishl, 1)) (hp : pc + 1 = pc2) (kk : V p l e R s m args below meth c G A nL k n Q ws pc2 lv (.int (x <<< (y &&& 31)) :: st)) : V p l e R s m args below meth c G A nL k n Q ws pc lv (.int y :: .int x :: st) := by
  subst hp; exact fun H locs ls hP hD hS hl => lv_ishl S.1.1 S.1.2.1 hdg (kk H locs ls hP hD hS hl)
theorem v_ishr (S : Fx p m c cc nL s args own meth rt G A) {x y : Int32} (hdg : decode cc pc = .ok (.ishr, 1)) (hp : pc + 1 = pc2) (kk : V p l e R s m args below meth c G A nL k n Q ws pc2 lv (.int (x >>> (y &&& 31)) :: st)) : V p l e R s m args below meth c G A nL k n Q ws pc lv (.int y :: .int x :: st) := by
  subst hp; exact fun H locs ls hP hD hS hl => lv_ishr S.1.1 S.1.2.1 hdg (kk H locs ls hP hD hS hl)
theorem v_ineg (S : Fx p m c cc nL s args own meth rt G A) {x : Int32} (hdg : decode cc pc = .ok (.ineg, 1)) (hp : pc + 1 = pc2) (kk : V p l e R s m args below meth c G A nL k n Q ws pc2 lv (.int (-x) :: st)) : V p l e R s m args below meth c G A nL k n Q ws pc lv (.int x :: st) := by
  subst hp; exact fun H locs ls hP hD hS hl => lv_ineg S.1.1 S.1.2.1 hdg (kk H locs ls hP hD hS hl)
theorem v_iushr (S : Fx p m c cc nL s args own meth rt G A) {x y : Int32} (hdg : decode cc pc = .ok (.iushr, 1)) (hp : pc + 1 = pc2) (kk : V p l e R s m args below meth c G A nL k n Q ws pc2 lv (.int ((x.toUInt32 >>> (y.toUInt32 &&& Int32.toUInt32 31)).toInt32) :: st)) : V p l e R s m args below meth c G A nL k n Q ws pc lv (.int y :: .int x :: st) := by
  subst hp; exact fun H locs ls hP hD hS hl => lv_iushr S.1.1 S.1.2.1 hdg rfl (kk H locs ls hP hD hS hl)
theorem v_idiv (S : Fx p m c cc nL s args own meth rt G A) {x y : Int32} (hne : ¬ y = 0) (hdg : decode cc pc = .ok (.idiv, 1)) (hp : pc + 1 = pc2) (kk : V p l e R s m args below meth c G A nL k n Q ws pc2 lv (.int (x / y) :: st)) : V p l e R s m args below meth c G A nL k n Q ws pc lv (.int y :: .int x :: st) := by
  subst hp; exact fun H locs ls hP hD hS hl => lv_idiv S.1.1 S.1.2.1 hdg hne (kk H locs ls hP hD hS hl)
theorem v_irem (S : Fx p m c cc nL s args own meth rt G A) {x y : Int32} (hne : ¬ y = 0) (hdg : decode cc pc = .ok (.irem, 1)) (hp : pc + 1 = pc2) (kk : V p l e R s m args below meth c G A nL k n Q ws pc2 lv (.int (x - x / y * y) :: st)) : V p l e R s m args below meth c G A nL k n Q ws pc lv (.int y :: .int x :: st) := by
  subst hp; exact fun H locs ls hP hD hS hl => lv_irem S.1.1 S.1.2.1 hdg hne (kk H locs ls hP hD hS hl)
theorem v_dup (S : Fx p m c cc nL s args own meth rt G A) {v : Value} (hdg : decode cc pc = .ok (.dup, 1)) (hv : v.category = 1) (hp : pc + 1 = pc2) (kk : V p l e R s m args below meth c G A nL k n Q ws pc2 lv (v :: v :: st)) : V p l e R s m args below meth c G A nL k n Q ws pc lv (v :: st) := by
  subst hp; exact fun H locs ls hP hD hS hl => lv_dup S.1.1 S.1.2.1 hdg hv (kk H locs ls hP hD hS hl)
theorem v_dup2 (S : Fx p m c cc nL s args own meth rt G A) {v w : Value} (hdg : decode cc pc = .ok (.dup2, 1)) (hv : v.category = 1) (hw : w.category = 1) (hp : pc + 1 = pc2) (kk : V p l e R s m args below meth c G A nL k n Q ws pc2 lv (v :: w :: v :: w :: st)) : V p l e R s m args below meth c G A nL k n Q ws pc lv (v :: w :: st) := by
  subst hp; exact fun H locs ls hP hD hS hl => lv_dup2_11 S.1.1 S.1.2.1 hdg hv hw (kk H locs ls hP hD hS hl)
theorem v_pop (S : Fx p m c cc nL s args own meth rt G A) {v : Value} (hdg : decode cc pc = .ok (.pop, 1)) (hv : v.category = 1) (hp : pc + 1 = pc2) (kk : V p l e R s m args below meth c G A nL k n Q ws pc2 lv (st)) : V p l e R s m args below meth c G A nL k n Q ws pc lv (v :: st) := by
  subst hp; exact fun H locs ls hP hD hS hl => lv_pop S.1.1 S.1.2.1 hdg hv (kk H locs ls hP hD hS hl)
theorem v_i2d (S : Fx p m c cc nL s args own meth rt G A) {x : Int32} (hdg : decode cc pc = .ok (.i2d, 1)) (hp : pc + 1 = pc2) (kk : V p l e R s m args below meth c G A nL k n Q ws pc2 lv (.double (FP.i2d x) :: st)) : V p l e R s m args below meth c G A nL k n Q ws pc lv (.int x :: st) := by
  subst hp; exact fun H locs ls hP hD hS hl => lv_i2d S.1.1 S.1.2.1 hdg (kk H locs ls hP hD hS hl)
theorem v_dconst0 (S : Fx p m c cc nL s args own meth rt G A)  (hdg : decode cc pc = .ok (.dconst 0, 1)) (hp : pc + 1 = pc2) (kk : V p l e R s m args below meth c G A nL k n Q ws pc2 lv (.double FP.dconst0 :: st)) : V p l e R s m args below meth c G A nL k n Q ws pc lv (st) := by
  subst hp; exact fun H locs ls hP hD hS hl => lv_dconst0 S.1.1 S.1.2.1 hdg (kk H locs ls hP hD hS hl)
theorem v_ddiv (S : Fx p m c cc nL s args own meth rt G A) {x y : UInt64} (hne : vf_n64 (FP.ddiv x y)) (hdg : decode cc pc = .ok (.ddiv, 1)) (hp : pc + 1 = pc2) (kk : V p l e R s m args below meth c G A nL k n Q ws pc2 lv (.double (FP.ddiv x y) :: st)) : V p l e R s m args below meth c G A nL k n Q ws pc lv (.double y :: .double x :: st) := by
  subst hp; exact fun H locs ls hP hD hS hl => lv_ddiv S.1.1 S.1.2.1 hdg hne (kk H locs ls hP hD hS hl)
theorem v_dcmp (S : Fx p m c cc nL s args own meth rt G A) {x y : UInt64} {op : CmpOp} (hdg : decode cc pc = .ok (.dcmp op, 1)) (hp : pc + 1 = pc2) (kk : V p l e R s m args below meth c G A nL k n Q ws pc2 lv (.int (Op.cmpValue (FP.dcmp x y) op) :: st)) : V p l e R s m args below meth c G A nL k n Q ws pc lv (.double y :: .double x :: st) := by
  subst hp; exact fun H locs ls hP hD hS hl => lv_dcmp S.1.1 S.1.2.1 hdg (kk H locs ls hP hD hS hl)
theorem v_dload_n (S : Fx p m c cc nL s args own meth rt G A) {i : Fin 4} {j : Nat} {x : UInt64} (k0 : Nat) (hdg : decode cc pc = .ok (.dload_n i, 1)) (hi : (i : Nat) = j) (hk : lv[k0]? = some (j, .double x)) (hp : pc + 1 = pc2) (kk : V p l e R s m args below meth c G A nL k n Q ws pc2 lv (.double x :: st)) : V p l e R s m args below meth c G A nL k n Q ws pc lv (st) := by
  subst hp; exact fun H locs ls hP hD hS hl => lv_dload_n S.1.1 S.1.2.1 hdg hi (lv_at hl k0 hk) (kk H locs ls hP hD hS hl)
theorem v_dload (S : Fx p m c cc nL s args own meth rt G A) {j : Nat} {x : UInt64} (k0 : Nat) (hdg : decode cc pc = .ok (.dload j, 2)) (hk : lv[k0]? = some (j, .double x)) (hp : pc + 2 = pc2) (kk : V p l e R s m args below meth c G A nL k n Q ws pc2 lv (.double x :: st)) : V p l e R s m args below meth c G A nL k n Q ws pc lv (st) := by
  subst hp; exact fun H locs ls hP hD hS hl => lv_dload S.1.1 S.1.2.1 hdg (lv_at hl k0 hk) (kk H locs ls hP hD hS hl)
theorem v_dstore_n (S : Fx p m c cc nL s args own meth rt G A) {i : Fin 4} {j : Nat} {x : UInt64} (hdg : decode cc pc = .ok (.dstore_n i, 1)) (hi : (i : Nat) = j) (hn : j + 1 < nL) (ks : List Nat) (h2 : lv_pick ((j, Value.double x) :: lv.filter (fun q => !(q.1 == j) && (!(q.1 == j + 1) && !(q.1 + 1 == j && q.2.category == 2)))) ks = lv2) (hp : pc + 1 = pc2) (kk : V p l e R s m args below meth c G A nL k n Q ws pc2 lv2 st) : V p l e R s m args below meth c G A nL k n Q ws pc lv (.double x :: st) := by
  subst hp; exact fun H locs ls hP hD hS hl => lv_dstore_n S.1.1 S.1.2.1 hdg hi hl hn rfl (fun ls hl => kk H locs ls hP hD hS (lv_sub hl ks h2))
theorem v_dstore (S : Fx p m c cc nL s args own meth rt G A) {j : Nat} {x : UInt64} (hdg : decode cc pc = .ok (.dstore j, 2))  (hn : j + 1 < nL) (ks : List Nat) (h2 : lv_pick ((j, Value.double x) :: lv.filter (fun q => !(q.1 == j) && (!(q.1 == j + 1) && !(q.1 + 1 == j && q.2.category == 2)))) ks = lv2) (hp : pc + 2 = pc2) (kk : V p l e R s m args below meth c G A nL k n Q ws pc2 lv2 st) : V p l e R s m args below meth c G A nL k n Q ws pc lv (.double x :: st) := by
  subst hp; exact fun H locs ls hP hD hS hl => lv_dstore S.1.1 S.1.2.1 hdg hl hn rfl (fun ls hl => kk H locs ls hP hD hS (lv_sub hl ks h2))
theorem v_nmd {x : UInt64} (kk : ∀ y : UInt64, y = x → V p l e R s m args below meth c G A nL k n Q ws pc lv (.double y :: st)) : V p l e R s m args below meth c G A nL k n Q ws pc lv (.double x :: st) := kk x rfl
theorem v_icmp_eq (S : Fx p m c cc nL s args own meth rt G A) {x y : Int32} {off : Int} {tgt : Nat} (hdg : decode cc pc = .ok (.if_icmp .eq off, 3)) (ht : (pc : Int) + off = (tgt : Int)) (hp : pc + 3 = pc2) (kt : x = y → V p l e R s m args below meth c G A nL k n Q ws tgt lv st) (kf : ¬ x = y → V p l e R s m args below meth c G A nL k n Q ws pc2 lv st) : V p l e R s m args below meth c G A nL k n Q ws pc lv (.int y :: .int x :: st) := by
  subst hp; exact fun H locs ls hP hD hS hl => lv_icmp_eq S.1.1 S.1.2.1 hdg ht (fun c => kt c H locs ls hP hD hS hl) (fun c => kf c H locs ls hP hD hS hl)
theorem v_icmp_ne (S : Fx p m c cc nL s args own meth rt G A) {x y : Int32} {off : Int} {tgt : Nat} (hdg : decode cc pc = .ok (.if_icmp .ne off, 3)) (ht : (pc : Int) + off = (tgt : Int)) (hp : pc + 3 = pc2) (kt : ¬ x = y → V p l e R s m args below meth c G A nL k n Q ws tgt lv st) (kf : x = y → V p l e R s m args below meth c G A nL k n Q ws pc2 lv st) : V p l e R s m args below meth c G A nL k n Q ws pc lv (.int y :: .int x :: st) := by
  subst hp; exact fun H locs ls hP hD hS hl => lv_icmp_ne S.1.1 S.1.2.1 hdg ht (fun c => kt c H locs ls hP hD hS hl) (fun c => kf c H locs ls hP hD hS hl)
theorem v_icmp_lt (S : Fx p m c cc nL s args own meth rt G A) {x y : Int32} {off : Int} {tgt : Nat} (hdg : decode cc pc = .ok (.if_icmp .lt off, 3)) (ht : (pc : Int) + off = (tgt : Int)) (hp : pc + 3 = pc2) (kt : x < y → V p l e R s m args below meth c G A nL k n Q ws tgt lv st) (kf : ¬ x < y → V p l e R s m args below meth c G A nL k n Q ws pc2 lv st) : V p l e R s m args below meth c G A nL k n Q ws pc lv (.int y :: .int x :: st) := by
  subst hp; exact fun H locs ls hP hD hS hl => lv_icmp_lt S.1.1 S.1.2.1 hdg ht (fun c => kt c H locs ls hP hD hS hl) (fun c => kf c H locs ls hP hD hS hl)
theorem v_icmp_ge (S : Fx p m c cc nL s args own meth rt G A) {x y : Int32} {off : Int} {tgt : Nat} (hdg : decode cc pc = .ok (.if_icmp .ge off, 3)) (ht : (pc : Int) + off = (tgt : Int)) (hp : pc + 3 = pc2) (kt : y ≤ x → V p l e R s m args below meth c G A nL k n Q ws tgt lv st) (kf : ¬ y ≤ x → V p l e R s m args below meth c G A nL k n Q ws pc2 lv st) : V p l e R s m args below meth c G A nL k n Q ws pc lv (.int y :: .int x :: st) := by
  subst hp; exact fun H locs ls hP hD hS hl => lv_icmp_ge S.1.1 S.1.2.1 hdg ht (fun c => kt c H locs ls hP hD hS hl) (fun c => kf c H locs ls hP hD hS hl)
theorem v_icmp_gt (S : Fx p m c cc nL s args own meth rt G A) {x y : Int32} {off : Int} {tgt : Nat} (hdg : decode cc pc = .ok (.if_icmp .gt off, 3)) (ht : (pc : Int) + off = (tgt : Int)) (hp : pc + 3 = pc2) (kt : y < x → V p l e R s m args below meth c G A nL k n Q ws tgt lv st) (kf : ¬ y < x → V p l e R s m args below meth c G A nL k n Q ws pc2 lv st) : V p l e R s m args below meth c G A nL k n Q ws pc lv (.int y :: .int x :: st) := by
  subst hp; exact fun H locs ls hP hD hS hl => lv_icmp_gt S.1.1 S.1.2.1 hdg ht (fun c => kt c H locs ls hP hD hS hl) (fun c => kf c H locs ls hP hD hS hl)
theorem v_icmp_le (S : Fx p m c cc nL s args own meth rt G A) {x y : Int32} {off : Int} {tgt : Nat} (hdg : decode cc pc = .ok (.if_icmp .le off, 3)) (ht : (pc : Int) + off = (tgt : Int)) (hp : pc + 3 = pc2) (kt : x ≤ y → V p l e R s m args below meth c G A nL k n Q ws tgt lv st) (kf : ¬ x ≤ y → V p l e R s m args below meth c G A nL k n Q ws pc2 lv st) : V p l e R s m args below meth c G A nL k n Q ws pc lv (.int y :: .int x :: st) := by
  subst hp; exact fun H locs ls hP hD hS hl => lv_icmp_le S.1.1 S.1.2.1 hdg ht (fun c => kt c H locs ls hP hD hS hl) (fun c => kf c H locs ls hP hD hS hl)
theorem v_if_eq (S : Fx p m c cc nL s args own meth rt G A) {x : Int32} {off : Int} {tgt : Nat} (hdg : decode cc pc = .ok (.ifCond .eq off, 3)) (ht : (pc : Int) + off = (tgt : Int)) (hp : pc + 3 = pc2) (kt : x = 0 → V p l e R s m args below meth c G A nL k n Q ws tgt lv st) (kf : ¬ x = 0 → V p l e R s m args below meth c G A nL k n Q ws pc2 lv st) : V p l e R s m args below meth c G A nL k n Q ws pc lv (.int x :: st) := by
  subst hp; exact fun H locs ls hP hD hS hl => lv_if_eq S.1.1 S.1.2.1 hdg ht (fun c => kt c H locs ls hP hD hS hl) (fun c => kf c H locs ls hP hD hS hl)
theorem v_if_ne (S : Fx p m c cc nL s args own meth rt G A) {x : Int32} {off : Int} {tgt : Nat} (hdg : decode cc pc = .ok (.ifCond .ne off, 3)) (ht : (pc : Int) + off = (tgt : Int)) (hp : pc + 3 = pc2) (kt : ¬ x = 0 → V p l e R s m args below meth c G A nL k n Q ws tgt lv st) (kf : x = 0 → V p l e R s m args below meth c G A nL k n Q ws pc2 lv st) : V p l e R s m args below meth c G A nL k n Q ws pc lv (.int x :: st) := by
  subst hp; exact fun H locs ls hP hD hS hl => lv_if_ne S.1.1 S.1.2.1 hdg ht (fun c => kt c H locs ls hP hD hS hl) (fun c => kf c H locs ls hP hD hS hl)
theorem v_if_lt (S : Fx p m c cc nL s args own meth rt G A) {x : Int32} {off : Int} {tgt : Nat} (hdg : decode cc pc = .ok (.ifCond .lt off, 3)) (ht : (pc : Int) + off = (tgt : Int)) (hp : pc + 3 = pc2) (kt : x < 0 → V p l e R s m args below meth c G A nL k n Q ws tgt lv st) (kf : ¬ x < 0 → V p l e R s m args below meth c G A nL k n Q ws pc2 lv st) : V p l e R s m args below meth c G A nL k n Q ws pc lv (.int x :: st) := by
  subst hp; exact fun H locs ls hP hD hS hl => lv_if_lt S.1.1 S.1.2.1 hdg ht (fun c => kt c H locs ls hP hD hS hl) (fun c => kf c H locs ls hP hD hS hl)
theorem v_if_ge (S : Fx p m c cc nL s args own meth rt G A) {x : Int32} {off : Int} {tgt : Nat} (hdg : decode cc pc = .ok (.ifCond .ge off, 3)) (ht : (pc : Int) + off = (tgt : Int)) (hp : pc + 3 = pc2) (kt : 0 ≤ x → V p l e R s m args below meth c G A nL k n Q ws tgt lv st) (kf : ¬ 0 ≤ x → V p l e R s m args below meth c G A nL k n Q ws pc2 lv st) : V p l e R s m args below meth c G A nL k n Q ws pc lv (.int x :: st) := by
  subst hp; exact fun H locs ls hP hD hS hl => lv_if_ge S.1.1 S.1.2.1 hdg ht (fun c => kt c H locs ls hP hD hS hl) (fun c => kf c H locs ls hP hD hS hl)
theorem v_if_gt (S : Fx p m c cc nL s args own meth rt G A) {x : Int32} {off : Int} {tgt : Nat} (hdg : decode cc pc = .ok (.ifCond .gt off, 3)) (ht : (pc : Int) + off = (tgt : Int)) (hp : pc + 3 = pc2) (kt : 0 < x → V p l e R s m args below meth c G A nL k n Q ws tgt lv st) (kf : ¬ 0 < x → V p l e R s m args below meth c G A nL k n Q ws pc2 lv st) : V p l e R s m args below meth c G A nL k n Q ws pc lv (.int x :: st) := by
  subst hp; exact fun H locs ls hP hD hS hl => lv_if_gt S.1.1 S.1.2.1 hdg ht (fun c => kt c H locs ls hP hD hS hl) (fun c => kf c H locs ls hP hD hS hl)
theorem v_if_le (S : Fx p m c cc nL s args own meth rt G A) {x : Int32} {off : Int} {tgt : Nat} (hdg : decode cc pc = .ok (.ifCond .le off, 3)) (ht : (pc : Int) + off = (tgt : Int)) (hp : pc + 3 = pc2) (kt : x ≤ 0 → V p l e R s m args below meth c G A nL k n Q ws tgt lv st) (kf : ¬ x ≤ 0 → V p l e R s m args below meth c G A nL k n Q ws pc2 lv st) : V p l e R s m args below meth c G A nL k n Q ws pc lv (.int x :: st) := by
  subst hp; exact fun H locs ls hP hD hS hl => lv_if_le S.1.1 S.1.2.1 hdg ht (fun c => kt c H locs ls hP hD hS hl) (fun c => kf c H locs ls hP hD hS hl)
theorem v_goto (S : Fx p m c cc nL s args own meth rt G A) {off : Int} {tgt : Nat} (hdg : decode cc pc = .ok (.goto off, 3)) (ht : (pc : Int) + off = (tgt : Int)) (kk : V p l e R s m args below meth c G A nL k n Q ws tgt lv st) : V p l e R s m args below meth c G A nL k n Q ws pc lv st :=
  fun H locs ls hP hD hS hl => lv_goto S.1.1 S.1.2.1 hdg ht (kk H locs ls hP hD hS hl)
theorem v_tableIn (S : Fx p m c cc nL s args own meth rt G A) {dflt lo hi : Int} {offs : Array Int} {len : Nat} {x : Int32} {off : Int} {tgt : Nat} (hdg : decode cc pc = .ok (.tableswitch dflt lo hi offs, len)) (h1 : ¬ x.toInt < lo) (h2 : ¬ hi < x.toInt) (ho : offs[(x.toInt - lo).toNat]? = some off) (ht : (pc : Int) + off = (tgt : Int)) (kk : V p l e R s m args below meth c G A nL k n Q ws tgt lv st) : V p l e R s m args below meth c G A nL k n Q ws pc lv (.int x :: st) :=
  fun H locs ls hP hD hS hl => lv_tableIn S.1.1 S.1.2.1 hdg h1 h2 ho ht (kk H locs ls hP hD hS hl)
theorem v_tableOut (S : Fx p m c cc nL s args own meth rt G A) {dflt lo hi : Int} {offs : Array Int} {len : Nat} {x : Int32} {tgt : Nat} (hdg : decode cc pc = .ok (.tableswitch dflt lo hi offs, len)) (h : x.toInt < lo ∨ hi < x.toInt) (ht : (pc : Int) + dflt = (tgt : Int)) (kk : V p l e R s m args below meth c G A nL k n Q ws tgt lv st) : V p l e R s m args below meth c G A nL k n Q ws pc lv (.int x :: st) :=
  fun H locs ls hP hD hS hl => lv_tableOut S.1.1 S.1.2.1 hdg h ht (kk H locs ls hP hD hS hl)
theorem v_lookup (S : Fx p m c cc nL s args own meth rt G A) {dflt : Int} {ps : Array (Int × Int)} {len : Nat} {x : Int32} {off : Int} {tgt : Nat} (hdg : decode cc pc = .ok (.lookupswitch dflt ps, len)) (hq : (ps.toList.zip (ps.toList.drop 1)).all (fun (a, next) => a.1 < next.1) = true) (ho : Op.lookupswitch.offset ps.toList dflt x.toInt = off) (ht : (pc : Int) + off = (tgt : Int)) (kk : V p l e R s m args below meth c G A nL k n Q ws tgt lv st) : V p l e R s m args below meth c G A nL k n Q ws pc lv (.int x :: st) :=
  fun H locs ls hP hD hS hl => lv_lookup S.1.1 S.1.2.1 hdg hq ho ht (kk H locs ls hP hD hS hl)
theorem v_nm {x : Int32} (kk : ∀ y : Int32, y = x → V p l e R s m args below meth c G A nL k n Q ws pc lv (.int y :: st)) : V p l e R s m args below meth c G A nL k n Q ws pc lv (.int x :: st) := kk x rfl
theorem v_get (S : Fx p m c cc nL s args own meth rt G A) {index ci j : Nat} {a : Nat} {fs : List Value} {v : Value} (hf : GF own index ci j) (q0 : Nat) (he : ws[q0]? = some (a, .inr (ci, fs))) (hv : fs[j]? = some v) (hdg : decode cc pc = .ok (.getfield index, 3)) (hp : pc + 3 = pc2) (kk : V p l e R s m args below meth c G A nL k n Q ws pc2 lv (v :: st)) : V p l e R s m args below meth c G A nL k n Q ws pc lv (.ref a :: st) := by
  subst hp
  obtain ⟨C, T, N, hc, hin, hk, hl0⟩ := hf
  exact fun H locs ls hP hD hS hl => va_get (D := G.1) (Ts := ub) S.1.1 S.1.2.1 S.1.2.2.2.2 hin S.1.2.2.2.1 S.2.2.2.1 hP q0 he hc j hk (S.1.2.2.2.2 _ hl0) (fun _ h => h) hv hdg (kk H locs ls hP hD hS hl)
theorem v_getN (S : Fx p m c cc nL s args own meth rt G A) {index ci j : Nat} {a : Nat} {fs : List Value} {v : Value} (hf : GFN own index ci j) (q0 : Nat) (he : ws[q0]? = some (a, .inr (ci, fs))) (hv : fs[j]? = some v) (hdg : decode cc pc = .ok (.getfield index, 3)) (hp : pc + 3 = pc2) (kk : V p l e R s m args below meth c G A nL k n Q ws pc2 lv (v :: st)) : V p l e R s m args below meth c G A nL k n Q ws pc lv (.ref a :: st) := by
  subst hp
  obtain ⟨C, T, N, host, hc, hin, hk, hl0⟩ := hf
  exact fun H locs ls hP hD hS hl => va_getN (D := G.1) (Ts := ub) S.1.1 S.1.2.1 S.1.2.2.2.2 hin S.1.2.2.2.1 S.2.2.2.1 hP q0 he hc j hk (va_Nw.use rfl (S.2.2.2.2.1.1 _ hl0)) (fun _ h => h) hv hdg (kk H locs ls hP hD hS hl)
theorem v_put (S : Fx p m c cc nL s args own meth rt G A) {index ci j : Nat} {a : Nat} {fs : List Value} {v : Value} {ty : FieldType} (hf : GF own index ci j) (hg : PFc ci j false ty) (q0 : Nat) (he : ws[q0]? = some (a, .inr (ci, fs))) (hn : narrow ty v = v) (hfit : fits ty v = true) (hl1 : j < fs.length) (hw : ws.set q0 (a, .inr (ci, fs.set j v)) = ws2) (hdg : decode cc pc = .ok (.putfield index, 3)) (hp : pc + 3 = pc2) (kk : V p l e R s m args below meth c G A nL k n Q ws2 pc2 lv st) : V p l e R s m args below meth c G A nL k n Q ws pc lv (v :: .ref a :: st) := by
  subst hp; subst hw
  obtain ⟨C, T, N, hc, hin, hk, hl0⟩ := hf
  obtain ⟨C2, T2, N2, ty0, hc2, h1, h2, h3, h4, -⟩ := hg
  cases hc.symm.trans hc2
  exact fun H locs ls hP hD hS hl => va_put (D := G.1) (Ts := ub) S.1.1 S.1.2.1 S.1.2.2.2.2 hin ty0 h1 h2 S.1.2.2.2.1 S.2.2.2.1 hP hD hS q0 he hc j hk (S.1.2.2.2.2 _ hl0) (fun _ h => h) h3 h4 hn hfit hl1 hdg (fun H locs hP hD hS => kk H locs ls hP hD hS hl)
theorem v_putN (S : Fx p m c cc nL s args own meth rt G A) {index ci j : Nat} {a : Nat} {fs : List Value} {v : Value} {ty : FieldType} (hf : GFN own index ci j) (hg : PFc ci j false ty) (q0 : Nat) (he : ws[q0]? = some (a, .inr (ci, fs))) (hn : narrow ty v = v) (hfit : fits ty v = true) (hl1 : j < fs.length) (hw : ws.set q0 (a, .inr (ci, fs.set j v)) = ws2) (hdg : decode cc pc = .ok (.putfield index, 3)) (hp : pc + 3 = pc2) (kk : V p l e R s m args below meth c G A nL k n Q ws2 pc2 lv st) : V p l e R s m args below meth c G A nL k n Q ws pc lv (v :: .ref a :: st) := by
  subst hp; subst hw
  obtain ⟨C, T, N, host, hc, hin, hk, hl0⟩ := hf
  obtain ⟨C2, T2, N2, ty0, hc2, h1, h2, h3, h4, -⟩ := hg
  cases hc.symm.trans hc2
  exact fun H locs ls hP hD hS hl => va_putN (D := G.1) (Ts := ub) S.1.1 S.1.2.1 S.1.2.2.2.2 hin ty0 h1 h2 S.1.2.2.2.1 S.2.2.2.1 hP hD hS q0 he hc j hk (va_Nw.use rfl (S.2.2.2.2.1.1 _ hl0)) (fun _ h => h) h3 h4 hn hfit hl1 hdg (fun H locs hP hD hS => kk H locs ls hP hD hS hl)
theorem v_putF (S : Fx p m c cc nL s args own meth rt G A) {index ci j : Nat} {a : Nat} {fs : List Value} {v : Value} {ty : FieldType} (hinit : meth.name = "<init>") (hf : GF own index ci j) (hg : PFc ci j true ty) (hcl : vwCl[ci]?.map (fun q => q.1) = some own) (q0 : Nat) (he : ws[q0]? = some (a, .inr (ci, fs))) (hn : narrow ty v = v) (hfit : fits ty v = true) (hl1 : j < fs.length) (hw : ws.set q0 (a, .inr (ci, fs.set j v)) = ws2) (hdg : decode cc pc = .ok (.putfield index, 3)) (hp : pc + 3 = pc2) (kk : V p l e R s m args below meth c G A nL k n Q ws2 pc2 lv st) : V p l e R s m args below meth c G A nL k n Q ws pc lv (v :: .ref a :: st) := by
  subst hp; subst hw
  obtain ⟨C, T, N, hc, hin, hk, hl0⟩ := hf
  obtain ⟨C2, T2, N2, ty0, hc2, h1, h2, h3, h4, h5⟩ := hg
  cases hc.symm.trans hc2
  rw [hc] at hcl
  have hC : C = own := Option.some.inj hcl
  exact fun H locs ls hP hD hS hl => va_putF (D := G.1) (Ts := ub) S.1.1 S.1.2.1 S.1.2.2.2.2 hin ty0 h1 h2 S.1.2.2.2.1 S.2.2.2.1 hP hD hS q0 he hc j hk (S.1.2.2.2.2 _ hl0) (fun _ h => h) h3 hinit (h5.trans hC) h4 hn hfit hl1 hdg (fun H locs hP hD hS => kk H locs ls hP hD hS hl)
theorem v_iald (S : Fx p m c cc nL s args own meth rt G A) {a N : Nat} {f : Nat → Int32} {i : Int32} (q0 : Nat) (he : ws[q0]? = some (a, .inl (G.2.1, N, .inl f))) (hin : vp_in i N) (hdg : decode cc pc = .ok (.iaload, 1)) (hp : pc + 1 = pc2) (kk : V p l e R s m args below meth c G A nL k n Q ws pc2 lv (.int (f i.toNatClampNeg) :: st)) : V p l e R s m args below meth c G A nL k n Q ws pc lv (.int i :: .ref a :: st) := by
  subst hp
  exact fun H locs ls hP hD hS hl => va_iald S.1.1 S.1.2.1 S.2.2.2.1 hP q0 0 he rfl hin hdg (kk H locs ls hP hD hS hl)
theorem v_iast (S : Fx p m c cc nL s args own meth rt G A) {a N : Nat} {f : Nat → Int32} {i x : Int32} (q0 : Nat) (he : ws[q0]? = some (a, .inl (G.2.1, N, .inl f))) (hin : vp_in i N) (hw : ws.set q0 (a, .inl (G.2.1, N, .inl (upd f i.toNatClampNeg x))) = ws2) (hdg : decode cc pc = .ok (.iastore, 1)) (hp : pc + 1 = pc2) (kk : V p l e R s m args below meth c G A nL k n Q ws2 pc2 lv st) : V p l e R s m args below meth c G A nL k n Q ws pc lv (.int x :: .int i :: .ref a :: st) := by
  subst hp; subst hw
  exact fun H locs ls hP hD hS hl => va_iast S.1.1 S.1.2.1 S.2.2.2.1 hP hD hS q0 0 he rfl hin hdg (fun H locs hP hD hS => kk H locs ls hP hD hS hl)
theorem v_alen (S : Fx p m c cc nL s args own meth rt G A) {a N : Nat} {f : Nat → Int32} {v : Int32} (q0 : Nat) (he : ws[q0]? = some (a, .inl (G.2.1, N, .inl f))) (hv : Int32.ofNat N = v) (hdg : decode cc pc = .ok (.arraylength, 1)) (hp : pc + 1 = pc2) (kk : V p l e R s m args below meth c G A nL k n Q ws pc2 lv (.int v :: st)) : V p l e R s m args below meth c G A nL k n Q ws pc lv (.ref a :: st) := by
  subst hp
  exact fun H locs ls hP hD hS hl => va_alen S.1.1 S.1.2.1 S.2.2.2.1 hP q0 0 he (ty := .int) rfl hv hdg (kk H locs ls hP hD hS hl)
theorem v_aald (S : Fx p m c cc nL s args own meth rt G A) {a N : Nat} {f : Nat → Option Nat} {i : Int32} {v : Value} (q0 : Nat) (he : ws[q0]? = some (a, .inl (G.2.2, N, .inr (.inr (.inr (.inr f)))))) (hin : vp_in i N) (hv : va_rf (f i.toNatClampNeg) = v) (hdg : decode cc pc = .ok (.aaload, 1)) (hp : pc + 1 = pc2) (kk : V p l e R s m args below meth c G A nL k n Q ws pc2 lv (v :: st)) : V p l e R s m args below meth c G A nL k n Q ws pc lv (.int i :: .ref a :: st) := by
  subst hp; subst hv
  exact fun H locs ls hP hD hS hl => va_aldq S.1.1 S.1.2.1 S.2.2.2.1 hP q0 1 he (C := RX5) rfl hin hdg (kk H locs ls hP hD hS hl)
theorem v_aast (S : Fx p m c cc nL s args own meth rt G A) {a N v : Nat} {f : Nat → Option Nat} {i : Int32} {vs : List Value} (q0 qk : Nat) (he : ws[q0]? = some (a, .inl (G.2.2, N, .inr (.inr (.inr (.inr f)))))) (hv : ws[qk]? = some (v, .inr (5, vs))) (hin : vp_in i N) (hw : ws.set q0 (a, .inl (G.2.2, N, .inr (.inr (.inr (.inr (va_up f i.toNatClampNeg (some v))))))) = ws2) (hdg : decode cc pc = .ok (.aastore, 1)) (hp : pc + 1 = pc2) (kk : V p l e R s m args below meth c G A nL k n Q ws2 pc2 lv st) : V p l e R s m args below meth c G A nL k n Q ws pc lv (.ref v :: .int i :: .ref a :: st) := by
  subst hp; subst hw
  exact fun H locs ls hP hD hS hl => va_astq S.1.1 S.1.2.1 S.2.2.2.1 hP hD hS q0 1 qk 5 he (r := (RX5, TX5, 4)) rfl hv rfl hin hdg (fun H locs hP hD hS => kk H locs ls hP hD hS hl)

theorem v_max (S : Fx p m c cc nL s args own meth rt G A) {index : Nat} {x y : Int32} (hlink : Cond.methodLink own index Lib.Math.max.name ∈ ub) (hstat : Cond.static Lib.Math.max.name ∈ ub) (hini : Cond.initialized "java/lang/Math" ∈ ub) (hcode : Cond.code Lib.Math.max.name Lib.Math.max.code 2 (some .int) ∈ ub) (hR : 1 ≤ R.frames) (hlo : (st.map fun v => v.category).sum + 13 ≤ R.locals) (hk : k ≤ R.cells) (hs : n ≤ R.slots) (hdg : decode cc pc = .ok (.invokestatic index, 3)) (hp : pc + 3 = pc2) (kk : V p l e R s m args below meth c G A nL k n Q ws pc2 lv (.int (if x < y then y else x) :: st)) : V p l e R s m args below meth c G A nL k n Q ws pc lv (.int y :: .int x :: st) := by
  subst hp
  exact fun H locs ls hP hD hS hl => va_mmax S.1.1 S.1.2.1 (S.1.2.2.1.trans hl.1.symm) S.1.2.2.2.1 (S.1.2.2.2.2 _ hlink) (S.1.2.2.2.2 _ hstat) (S.1.2.2.2.2 _ hini) (S.1.2.2.2.2 _ hcode) hR hlo hk hs hdg (kk H locs ls hP hD hS hl)
theorem v_min (S : Fx p m c cc nL s args own meth rt G A) {index : Nat} {x y : Int32} (hlink : Cond.methodLink own index Lib.Math.min.name ∈ ub) (hstat : Cond.static Lib.Math.min.name ∈ ub) (hini : Cond.initialized "java/lang/Math" ∈ ub) (hcode : Cond.code Lib.Math.min.name Lib.Math.min.code 2 (some .int) ∈ ub) (hR : 1 ≤ R.frames) (hlo : (st.map fun v => v.category).sum + 13 ≤ R.locals) (hk : k ≤ R.cells) (hs : n ≤ R.slots) (hdg : decode cc pc = .ok (.invokestatic index, 3)) (hp : pc + 3 = pc2) (kk : V p l e R s m args below meth c G A nL k n Q ws pc2 lv (.int (if y < x then y else x) :: st)) : V p l e R s m args below meth c G A nL k n Q ws pc lv (.int y :: .int x :: st) := by
  subst hp
  exact fun H locs ls hP hD hS hl => va_mmin S.1.1 S.1.2.1 (S.1.2.2.1.trans hl.1.symm) S.1.2.2.2.1 (S.1.2.2.2.2 _ hlink) (S.1.2.2.2.2 _ hstat) (S.1.2.2.2.2 _ hini) (S.1.2.2.2.2 _ hcode) hR hlo hk hs hdg (kk H locs ls hP hD hS hl)
theorem v_copy (S : Fx p m c cc nL s args own meth rt G A) {index : Nat} (q0 q1 : Nat) {a0 a1 n0 n1 : Nat} {f g : Nat → Int32} {sp dp d : Int32} (hlink : Cond.methodLink own index arraycopyName ∈ ub) (hnat : Cond.native arraycopyName ∈ ub) (hstat : Cond.static arraycopyName ∈ ub) (hini : Cond.initialized "java/lang/System" ∈ ub) (he0 : ws[q0]? = some (a0, .inl (G.2.1, n0, .inl f))) (he1 : ws[q1]? = some (a1, .inl (G.2.1, n1, .inl g))) (h1 : ¬ sp < 0) (h2 : ¬ dp < 0) (h3 : ¬ d < 0) (h4 : sp.toNatClampNeg + d.toNatClampNeg ≤ n0) (h5 : dp.toNatClampNeg + d.toNatClampNeg ≤ n1) (hR : 1 ≤ R.frames) (hlo : (st.map fun v => v.category).sum + (nativeFrameWords "java/lang/System" "arraycopy" 5 + 11) ≤ R.locals) (hw : ws.set q1 (a1, .inl (G.2.1, n1, .inl (va_cpy f g sp.toNatClampNeg dp.toNatClampNeg d.toNatClampNeg))) = ws2) (hdg : decode cc pc = .ok (.invokestatic index, 3)) (hp : pc + 3 = pc2) (kk : V p l e R s m args below meth c G A nL k n Q ws2 pc2 lv st) : V p l e R s m args below meth c G A nL k n Q ws pc lv (.int d :: .int dp :: .ref a1 :: .int sp :: .ref a0 :: st) := by
  subst hp; subst hw
  exact fun H locs ls hP hD hS hl => va_copyi S.1.1 S.1.2.1 (S.1.2.2.1.trans hl.1.symm) S.1.2.2.2.1 (S.1.2.2.2.2 _ hlink) (S.1.2.2.2.2 _ hnat) (S.1.2.2.2.2 _ hstat) (S.1.2.2.2.2 _ hini) S.2.2.2.1 hP hD hS q0 q1 0 0 he0 he1 (ty := .int) rfl rfl rfl h1 h2 h3 h4 h5 (fun _ _ => rfl) hR hlo hdg (fun H locs hP hD hS => kk H locs ls hP hD hS hl)
theorem v_objInit (S : Fx p m c cc nL s args own meth rt G A) {index a : Nat} (hlink : Cond.methodLink own index Lib.objectInit ∈ ub) (hinst : Cond.instanceMethod Lib.objectInit ∈ ub) (hcode : Cond.code Lib.objectInit ⟨#[0xb1]⟩ 1 none ∈ ub) (hR : 1 ≤ R.frames) (hlo : (st.map fun v => v.category).sum + 12 ≤ R.locals) (hdg : decode cc pc = .ok (.invokespecial index, 3)) (hp : pc + 3 = pc2) (kk : V p l e R s m args below meth c G A nL k n Q ws pc2 lv st) : V p l e R s m args below meth c G A nL k n Q ws pc lv (.ref a :: st) := by
  subst hp
  exact fun H locs ls hP hD hS hl => W.objInit S.1.1 S.1.2.1 S.1.2.2.2.1 (S.1.2.2.2.2 _ hlink) (S.1.2.2.2.2 _ hinst) (S.1.2.2.2.2 _ hcode) rfl (by rw [S.1.2.2.1]; exact hl.1) rfl hdg hR (by show 2 * 0 + _ + 12 ≤ _; omega) (kk H locs ls hP hD hS hl)
theorem v_new (S : Fx p m c cc nL s args own meth rt G A) {index ci N a : Nat} {C : String} {T : u_T} {fs : List Value} (ty : Nat → FieldType) (hty : ∀ j, j < N → parseFieldDescriptor (T j).2.2.1 = some (ty j)) (hc : vwCl[ci]? = some (C, T, N)) (hin : ∀ w ∈ u_ws C T N, w ∈ ub) (hcl : Cond.classLink own index C ∈ ub) (hinst : Cond.instantiable C N ∈ ub) (hini : Cond.initialized C ∈ ub) (hfs : ∀ j, j < N → defaultValue (ty j) = vp_V fs j) (hcells : k + 1 ≤ R.cells) (hslots : n + N ≤ R.slots) (hdg : decode cc pc = .ok (.new index, 3)) (hp : pc + 3 = pc2) (kk : ∀ q : Nat, V p l e R s m args below meth c G A nL (k + 1) (n + N) Q (ws ++ [(q, .inr (ci, fs))]) pc2 lv (.ref q :: st)) : V p l e R s m args below meth c G A nL k n Q ws pc lv st := by
  subst hp
  exact fun H locs ls hP hD hS hl => va_new (D := G.1) (Ts := ub) S.1.1 S.1.2.1 S.1.2.2.2.2 hin ty hty S.1.2.2.2.1 (S.1.2.2.2.2 _ hcl) (S.1.2.2.2.2 _ hinst) (S.1.2.2.2.2 _ hini) S.2.2.2.1 hP hD hS S.2.2.2.2.2 hc hfs hcells hslots hdg (fun q H hP hD hS => kk q H locs ls hP hD hS hl)
theorem v_newa (S : Fx p m c cc nL s args own meth rt G A) {d : Int32} {N : Nat} (harr : Cond.arrayClass .int ∈ ub) (hn : ¬ d < 0) (hN : d.toNatClampNeg = N) (hbytes : N * 4 ≤ 536870912) (hcells : k + 1 ≤ R.cells) (hslots : n + N ≤ R.slots) (hdg : decode cc pc = .ok (.newarray .int, 2)) (hp : pc + 2 = pc2) (kk : ∀ q : Nat, V p l e R s m args below meth c G A nL (k + 1) (n + N) Q (ws ++ [(q, .inl (G.2.1, N, .inl (fun _ => 0)))]) pc2 lv (.ref q :: st)) : V p l e R s m args below meth c G A nL k n Q ws pc lv (.int d :: st) := by
  subst hp
  intro H locs ls hP hD hS hl
  refine va_newaK S.1.1 S.1.2.1 (atype := .int) (S.1.2.2.2.2 _ harr) rfl hdg rfl hn hN hbytes hcells hslots rfl fun H1 cA e1 z1 o1 hAr hNm => ?_
  have hcA : cA = G.2.1 := Option.some.inj (hNm.symm.trans (S.2.2.2.1.2 0 _ rfl).2)
  subst hcA
  have hk : ∀ (j : Nat) (x : Nat × va_E), ws[j]? = some x → H1[x.1]? = H[x.1]? := fun j x hx => o1 x.1 ((hP j x hx).lt)
  refine kk H.size H1 locs ls ((hP.kept hk).app (fun j x hx => ?_)) (hD.push hP rfl (S.2.2.2.2.2 _ hS.1)) ⟨Nat.le_trans hS.1 (by omega), fun x h1 h2 => (o1 x (Nat.lt_of_lt_of_le h1 hS.1)).trans (hS.2.1 x h1 h2), hS.2.2⟩ hl
  have hz : j < 1 := (List.getElem?_eq_some_iff.mp hx).1
  rw [show j = 0 by omega] at hx
  cases hx
  show H1[H.size]? = some (vp_cell _ _)
  rw [e1]
  rfl

theorem v_newq (S : Fx p m c cc nL s args own meth rt G A) {index : Nat} {d : Int32} {N : Nat} (hcl : Cond.classLink own index RX5 ∈ ub) (hn : ¬ d < 0) (hN : d.toNatClampNeg = N) (hbytes : N * 4 ≤ 536870912) (hcells : k + 1 ≤ R.cells) (hslots : n + N ≤ R.slots) (hdg : decode cc pc = .ok (.anewarray index, 3)) (hp : pc + 3 = pc2) (kk : ∀ q : Nat, V p l e R s m args below meth c G A nL (k + 1) (n + N) Q (ws ++ [(q, .inl (G.2.2, N, .inr (.inr (.inr (.inr (fun _ => none))))))]) pc2 lv (.ref q :: st)) : V p l e R s m args below meth c G A nL k n Q ws pc lv (.int d :: st) := by
  subst hp
  intro H locs ls hP hD hS hl
  refine va_newq (D := G.1) (cl := vwCl) (tys := [(G.2.1, .int), (G.2.2, .object RX5)]) S.1.1 S.1.2.1 S.1.2.2.2.1 (S.1.2.2.2.2 _ hcl) S.2.2.2.2.1.2 S.2.2.2.1 hP hD hS S.2.2.2.2.2 hn hN hbytes hcells hslots hdg (fun q cA H1 hK1 hP1 hD1 hS1 => ?_)
  have hcA : cA = G.2.2 := by
    obtain ⟨kA, cm, _, _, _, h4⟩ := (S.2.2.2.1.2 1 _ rfl).2
    obtain ⟨kB, cn, _, _, _, g4⟩ := (hK1.2 2 _ rfl).2
    exact Option.some.inj (g4.symm.trans h4)
  subst hcA
  exact kk q H1 locs ls hP1 hD1 hS1 hl
theorem v_ctcase {z : Int32} : True := trivial

theorem con_call {av : List Value} {C Rs : va_W} {wf : va_W → va_W} {Pq : Option Value → va_W → Prop} {mc ms : Nat} {st0 rest : List Value} (S : Fx p m c cc nL s args own meth rt G A)
    (hrun : ∀ (H : Heap) (locs : List Loc) (ls : Array Slot), va_P G.1 vwCl C H → va_D (fun _ => True) C → ls.size = nL → va_Run p l e R s m args below meth c H locs k n mc ms (F0 m pc ls st0) rest (EQ G C H.size Pq av.toArray) (va_A C H.size))
    (hw : FrM ws C Rs wf) (hp : pc + 3 = pc2) (kk : ∀ v w, Pq v w → V p l e R s m args below meth c G A nL (k + mc) (n + ms) Q (wf w) pc2 lv (v.toList ++ rest)) : V p l e R s m args below meth c G A nL k n Q ws pc lv st0 := by
  subst hp
  intro H locs ls hP hD hS hl
  have hPp : va_P G.1 vwCl (C ++ Rs) H := va_P.perm hw.1 hP
  have hDp : va_D A (C ++ Rs) := va_D.perm hw.1 hD
  have hPc : va_P G.1 vwCl C H := va_P.left hPp
  have hDc := va_D.left hDp
  have hPr : va_P G.1 vwCl Rs H := va_P.right hPp
  have hDr : va_D A Rs := va_D.right hDp
  have hF : ∀ q, va_A C H.size q → A q := by
    rintro q (⟨j, x, hx⟩ | hq)
    · exact hDc.2 j (q, x) hx
    · exact S.2.2.2.2.2 q (Nat.le_trans hS.1 hq)
  have hr := hrun H locs ls hPc (hDc.weaken (fun _ _ _ _ => trivial)) hl.1
  intro T hT X
  obtain ⟨v, st₀, t, T', L, h0, X', hL, e1, e2, ⟨⟨v', w, hv, hq, hP1, hK1, hD1⟩, hz, hkeep⟩, hst⟩ := hr T hT X
  cases hv
  rw [h0] at hz hkeep
  rw [← e1] at hP1 hz hkeep
  have hap : ∀ (i : Nat) (x : Nat × va_E), Rs[i]? = some x → x.1 < H.size ∧ ¬ va_A C H.size x.1 := by
    intro i x hx
    have hlt := (hPr i x hx).lt
    refine ⟨hlt, ?_⟩
    rintro (⟨j, y2, hy⟩ | hq)
    · exact va_D.apart hDp hy hx rfl
    · omega
  have hPr1 : va_P G.1 vwCl Rs T'.heap := hPr.kept (fun i x hx => hkeep x.1 (hap i x hx).1 (hap i x hx).2)
  have hD2 : va_D A (w ++ Rs) := va_D.app (hD1.weaken (fun _ x _ h => hF x.1 h)) hDr (fun i j x y2 hx hy hxy => (hap j y2 hy).2 (by rw [← hxy]; exact hD1.2 i x hx))
  obtain ⟨t2, a1, b1⟩ := kk v w hq T'.heap (locs ++ L) ls (va_P.perm (hw.2 w) (va_P.app hP1 hPr1)) (va_D.perm (hw.2 w) hD2)
    ⟨Nat.le_trans hS.1 hz, fun q h1 h2 => by rw [hkeep q (Nat.lt_of_lt_of_le h1 hS.1) (fun z => h2 (hF q z))]; exact hS.2.1 q h1 h2, fun q hq2 => (List.mem_append.mp hq2).elim (hS.2.2 q) (fun h => hF _ (hL q h))⟩ hl T' rfl X'
  exact ⟨t2, hst t2 a1, b1⟩
theorem v_callS {y : MethodName} {b : ByteArray} {nL2 : Nat} {rt2 : Option FieldType} {rm2 : Room} {As : List Value} {C Rs : va_W} {wf : va_W → va_W} {Pq : Option Value → va_W → Prop} {mc ms index N : Nat} {st0 rest : List Value} (S : Fx p m c cc nL s args own meth rt G A)  (hC : Con l G y b nL2 rt2 rm2 (As) C Pq mc ms) (F : MF y b nL2 rt2 N) (hlink : Cond.methodLink own index y ∈ ub) (hstat : Cond.static y ∈ ub) (hst0 : st0 = As.reverse ++ rest) (hn : As.length = N) (hm : rm2.cells = mc ∧ rm2.slots = ms) (hR : rm2.frames + 1 ≤ R.frames ∧ 8 + (nL2 + 11) + rm2.locals ≤ R.locals) (hcs : k + mc ≤ R.cells ∧ n + ms ≤ R.slots) (hcat : (rest.map fun v => v.category).sum ≤ 8) (hdg : decode cc pc = .ok (.invokestatic index, 3))
    (hw : FrM ws C Rs wf) (hp : pc + 3 = pc2) (kk : ∀ v w, Pq v w → V p l e R s m args below meth c G A nL (k + mc) (n + ms) Q (wf w) pc2 lv (v.toList ++ rest)) : V p l e R s m args below meth c G A nL k n Q ws pc lv st0 := by
  subst hst0
  exact con_call S (av := As) (fun H locs ls hP hD hsz => va_runS S.1 (hC H.size) (⟨callB_of N S.1.2.2.2.2 (ub_cons F.1) rfl hm.1 hm.2 (S.1.2.2.2.2 _ F.2.1) (S.1.2.2.2.2 _ hlink) F.2.2 hR, S.1.2.2.2.2 _ hstat⟩) ⟨fun a U g mk q => ⟨q.1, q.2.1, q.2.2.1, va_K.moved (u := U) (U := U.calling g mk a) (Vm.Alike.refl U.vm) q.2.2.2.1, q.2.2.2.2.1, q.2.2.2.2.2.calling⟩, fun U hU hW => ⟨rfl, by rw [hU], by rw [hU]; exact hP, va_K.moved hW.alike S.2.2.2.1, hD, NW.warm hW S.2.2.2.2.1⟩⟩ rfl hn hsz rfl (lv_room hcat) hdg hcs) hw hp kk
theorem v_callSN {y : MethodName} {b : ByteArray} {nL2 : Nat} {rt2 : Option FieldType} {rm2 : Room} {As : List Value} {C Rs : va_W} {wf : va_W → va_W} {Pq : Option Value → va_W → Prop} {mc ms index N : Nat} {st0 rest : List Value} (S : Fx p m c cc nL s args own meth rt G A)  {host : String} (hC : Con l G y b nL2 rt2 rm2 (As) C Pq mc ms) (F : MF y b nL2 rt2 N) (hlink : Cond.methodLinkNest own index y host ∈ nwL) (hstat : Cond.static y ∈ ub) (hst0 : st0 = As.reverse ++ rest) (hn : As.length = N) (hm : rm2.cells = mc ∧ rm2.slots = ms) (hR : rm2.frames + 1 ≤ R.frames ∧ 8 + (nL2 + 11) + rm2.locals ≤ R.locals) (hcs : k + mc ≤ R.cells ∧ n + ms ≤ R.slots) (hcat : (rest.map fun v => v.category).sum ≤ 8) (hdg : decode cc pc = .ok (.invokestatic index, 3))
    (hw : FrM ws C Rs wf) (hp : pc + 3 = pc2) (kk : ∀ v w, Pq v w → V p l e R s m args below meth c G A nL (k + mc) (n + ms) Q (wf w) pc2 lv (v.toList ++ rest)) : V p l e R s m args below meth c G A nL k n Q ws pc lv st0 := by
  subst hst0
  exact con_call S (av := As) (fun H locs ls hP hD hsz => va_runSN S.1 (hC H.size) (⟨va_cnB N S.1.2.2.2.2 (ub_cons F.1) rfl hm.1 hm.2 (S.2.2.2.2.1.1 _ hlink) (S.1.2.2.2.2 _ F.2.1) F.2.2 hR, S.1.2.2.2.2 _ hstat, trivial⟩) ⟨fun a U g mk q => ⟨q.1, q.2.1, q.2.2.1, va_K.moved (u := U) (U := U.calling g mk a) (Vm.Alike.refl U.vm) q.2.2.2.1, q.2.2.2.2.1, q.2.2.2.2.2.calling⟩, fun U hU hW => ⟨rfl, by rw [hU], by rw [hU]; exact hP, va_K.moved hW.alike S.2.2.2.1, hD, NW.warm hW S.2.2.2.2.1⟩⟩ rfl hn hsz rfl (lv_room hcat) hdg hcs) hw hp kk
theorem v_callV {y : MethodName} {b : ByteArray} {nL2 : Nat} {rt2 : Option FieldType} {rm2 : Room} {As : List Value} {C Rs : va_W} {wf : va_W → va_W} {Pq : Option Value → va_W → Prop} {mc ms index N : Nat} {st0 rest : List Value} (S : Fx p m c cc nL s args own meth rt G A) {bq : Nat} {cn : String} {fs : List Value} (hC : Con l G y b nL2 rt2 rm2 (.ref bq :: As) C Pq mc ms) (F : MF y b nL2 rt2 N) (hlink : Cond.methodLink own index y ∈ ub) (hinst : Cond.instanceMethod y ∈ ub) (hsel : Cond.selects cn y y ∈ ub) (qr ci : Nat) (hcn : vwCl[ci]?.map (fun q => q.1) = some cn) (hrc : C[qr]? = some (bq, .inr (ci, fs))) (hst0 : st0 = As.reverse ++ .ref bq :: rest) (hn : As.length = N) (hm : rm2.cells = mc ∧ rm2.slots = ms) (hR : rm2.frames + 1 ≤ R.frames ∧ 8 + (nL2 + 11) + rm2.locals ≤ R.locals) (hcs : k + mc ≤ R.cells ∧ n + ms ≤ R.slots) (hcat : (rest.map fun v => v.category).sum ≤ 8) (hdg : decode cc pc = .ok (.invokevirtual index, 3))
    (hw : FrM ws C Rs wf) (hp : pc + 3 = pc2) (kk : ∀ v w, Pq v w → V p l e R s m args below meth c G A nL (k + mc) (n + ms) Q (wf w) pc2 lv (v.toList ++ rest)) : V p l e R s m args below meth c G A nL k n Q ws pc lv st0 := by
  subst hst0
  have hrecv : ∀ H : Heap, va_P G.1 vwCl C H → ∃ cell : Cell, H[bq]? = some cell ∧ cell.vm.isStatics = false ∧ s.vm.findClass cn = some cell.cls := by
    intro H hP
    obtain ⟨r, hr1, hr2⟩ : ∃ r, vwCl[ci]? = some r ∧ r.1 = cn := by
      cases hz : vwCl[ci]? with
      | none => rw [hz] at hcn; cases hcn
      | some r => rw [hz] at hcn; exact ⟨r, rfl, Option.some.inj hcn⟩
    have h9 := va_recv S.2.2.2.1 hP hr1 hrc
    rw [hr2] at h9
    exact h9
  exact con_call S (av := .ref bq :: As) (fun H locs ls hP hD hsz => va_runV S.1 (hC H.size) (⟨callB_of N S.1.2.2.2.2 (ub_cons F.1) rfl hm.1 hm.2 (S.1.2.2.2.2 _ F.2.1) (S.1.2.2.2.2 _ hlink) F.2.2 hR, S.1.2.2.2.2 _ hinst, S.1.2.2.2.2 _ hsel⟩) ⟨fun a U g mk q => ⟨q.1, q.2.1, q.2.2.1, va_K.moved (u := U) (U := U.calling g mk a) (Vm.Alike.refl U.vm) q.2.2.2.1, q.2.2.2.2.1, q.2.2.2.2.2.calling⟩, hrecv H hP, fun U hU hW => ⟨rfl, by rw [hU], by rw [hU]; exact hP, va_K.moved hW.alike S.2.2.2.1, hD, NW.warm hW S.2.2.2.2.1⟩⟩ rfl hn hsz rfl (lv_room hcat) hdg hcs) hw hp kk
theorem v_callVN {y : MethodName} {b : ByteArray} {nL2 : Nat} {rt2 : Option FieldType} {rm2 : Room} {As : List Value} {C Rs : va_W} {wf : va_W → va_W} {Pq : Option Value → va_W → Prop} {mc ms index N : Nat} {st0 rest : List Value} (S : Fx p m c cc nL s args own meth rt G A) {bq : Nat} {cn : String} {fs : List Value} {host : String} (hC : Con l G y b nL2 rt2 rm2 (.ref bq :: As) C Pq mc ms) (F : MF y b nL2 rt2 N) (hlink : Cond.methodLinkNest own index y host ∈ nwL) (hinst : Cond.instanceMethod y ∈ ub) (hsel : Cond.selects cn y y ∈ ub) (qr ci : Nat) (hcn : vwCl[ci]?.map (fun q => q.1) = some cn) (hrc : C[qr]? = some (bq, .inr (ci, fs))) (hst0 : st0 = As.reverse ++ .ref bq :: rest) (hn : As.length = N) (hm : rm2.cells = mc ∧ rm2.slots = ms) (hR : rm2.frames + 1 ≤ R.frames ∧ 8 + (nL2 + 11) + rm2.locals ≤ R.locals) (hcs : k + mc ≤ R.cells ∧ n + ms ≤ R.slots) (hcat : (rest.map fun v => v.category).sum ≤ 8) (hdg : decode cc pc = .ok (.invokevirtual index, 3))
    (hw : FrM ws C Rs wf) (hp : pc + 3 = pc2) (kk : ∀ v w, Pq v w → V p l e R s m args below meth c G A nL (k + mc) (n + ms) Q (wf w) pc2 lv (v.toList ++ rest)) : V p l e R s m args below meth c G A nL k n Q ws pc lv st0 := by
  subst hst0
  have hrecv : ∀ H : Heap, va_P G.1 vwCl C H → ∃ cell : Cell, H[bq]? = some cell ∧ cell.vm.isStatics = false ∧ s.vm.findClass cn = some cell.cls := by
    intro H hP
    obtain ⟨r, hr1, hr2⟩ : ∃ r, vwCl[ci]? = some r ∧ r.1 = cn := by
      cases hz : vwCl[ci]? with
      | none => rw [hz] at hcn; cases hcn
      | some r => rw [hz] at hcn; exact ⟨r, rfl, Option.some.inj hcn⟩
    have h9 := va_recv S.2.2.2.1 hP hr1 hrc
    rw [hr2] at h9
    exact h9
  exact con_call S (av := .ref bq :: As) (fun H locs ls hP hD hsz => va_runVN S.1 (hC H.size) (⟨va_cnB N S.1.2.2.2.2 (ub_cons F.1) rfl hm.1 hm.2 (S.2.2.2.2.1.1 _ hlink) (S.1.2.2.2.2 _ F.2.1) F.2.2 hR, S.1.2.2.2.2 _ hinst, S.1.2.2.2.2 _ hsel⟩) ⟨fun a U g mk q => ⟨q.1, q.2.1, q.2.2.1, va_K.moved (u := U) (U := U.calling g mk a) (Vm.Alike.refl U.vm) q.2.2.2.1, q.2.2.2.2.1, q.2.2.2.2.2.calling⟩, hrecv H hP, fun U hU hW => ⟨rfl, by rw [hU], by rw [hU]; exact hP, va_K.moved hW.alike S.2.2.2.1, hD, NW.warm hW S.2.2.2.2.1⟩⟩ rfl hn hsz rfl (lv_room hcat) hdg hcs) hw hp kk
theorem v_callI {y : MethodName} {b : ByteArray} {nL2 : Nat} {rt2 : Option FieldType} {rm2 : Room} {As : List Value} {C Rs : va_W} {wf : va_W → va_W} {Pq : Option Value → va_W → Prop} {mc ms index N : Nat} {st0 rest : List Value} (S : Fx p m c cc nL s args own meth rt G A) {bq : Nat} (hC : Con l G y b nL2 none rm2 (.ref bq :: As) C Pq mc ms) (F : MF y b nL2 none N) (hlink : Cond.methodLink own index y ∈ ub) (hinst : Cond.instanceMethod y ∈ ub) (hnm : y.name = "<init>") (hst0 : st0 = As.reverse ++ .ref bq :: rest) (hn : As.length = N) (hm : rm2.cells = mc ∧ rm2.slots = ms) (hR : rm2.frames + 1 ≤ R.frames ∧ 8 + (nL2 + 11) + rm2.locals ≤ R.locals) (hcs : k + mc ≤ R.cells ∧ n + ms ≤ R.slots) (hcat : (rest.map fun v => v.category).sum ≤ 8) (hdg : decode cc pc = .ok (.invokespecial index, 3))
    (hw : FrM ws C Rs wf) (hp : pc + 3 = pc2) (kk : ∀ v w, Pq v w → V p l e R s m args below meth c G A nL (k + mc) (n + ms) Q (wf w) pc2 lv (v.toList ++ rest)) : V p l e R s m args below meth c G A nL k n Q ws pc lv st0 := by
  subst hst0
  exact con_call S (av := .ref bq :: As) (fun H locs ls hP hD hsz => va_runI S.1 (hC H.size) (⟨callB_of N S.1.2.2.2.2 (ub_cons F.1) rfl hm.1 hm.2 (S.1.2.2.2.2 _ F.2.1) (S.1.2.2.2.2 _ hlink) F.2.2 hR, hnm, S.1.2.2.2.2 _ hinst⟩) ⟨fun a U g mk q => ⟨q.1, q.2.1, q.2.2.1, va_K.moved (u := U) (U := U.calling g mk a) (Vm.Alike.refl U.vm) q.2.2.2.1, q.2.2.2.2.1, q.2.2.2.2.2.calling⟩, fun U hU hW => ⟨rfl, by rw [hU], by rw [hU]; exact hP, va_K.moved hW.alike S.2.2.2.1, hD, NW.warm hW S.2.2.2.2.1⟩⟩ rfl hn hsz rfl (lv_room hcat) hdg hcs) hw hp kk
theorem v_callIN {y : MethodName} {b : ByteArray} {nL2 : Nat} {rt2 : Option FieldType} {rm2 : Room} {As : List Value} {C Rs : va_W} {wf : va_W → va_W} {Pq : Option Value → va_W → Prop} {mc ms index N : Nat} {st0 rest : List Value} (S : Fx p m c cc nL s args own meth rt G A) {bq : Nat} {host : String} (hC : Con l G y b nL2 none rm2 (.ref bq :: As) C Pq mc ms) (F : MF y b nL2 none N) (hlink : Cond.methodLinkNest own index y host ∈ nwL) (hinst : Cond.instanceMethod y ∈ ub) (hnm : y.name = "<init>") (hst0 : st0 = As.reverse ++ .ref bq :: rest) (hn : As.length = N) (hm : rm2.cells = mc ∧ rm2.slots = ms) (hR : rm2.frames + 1 ≤ R.frames ∧ 8 + (nL2 + 11) + rm2.locals ≤ R.locals) (hcs : k + mc ≤ R.cells ∧ n + ms ≤ R.slots) (hcat : (rest.map fun v => v.category).sum ≤ 8) (hdg : decode cc pc = .ok (.invokespecial index, 3))
    (hw : FrM ws C Rs wf) (hp : pc + 3 = pc2) (kk : ∀ v w, Pq v w → V p l e R s m args below meth c G A nL (k + mc) (n + ms) Q (wf w) pc2 lv (v.toList ++ rest)) : V p l e R s m args below meth c G A nL k n Q ws pc lv st0 := by
  subst hst0
  exact con_call S (av := .ref bq :: As) (fun H locs ls hP hD hsz => va_runIN S.1 (hC H.size) (⟨va_cnB N S.1.2.2.2.2 (ub_cons F.1) rfl hm.1 hm.2 (S.2.2.2.2.1.1 _ hlink) (S.1.2.2.2.2 _ F.2.1) F.2.2 hR, hnm, S.1.2.2.2.2 _ hinst⟩) ⟨fun a U g mk q => ⟨q.1, q.2.1, q.2.2.1, va_K.moved (u := U) (U := U.calling g mk a) (Vm.Alike.refl U.vm) q.2.2.2.1, q.2.2.2.2.1, q.2.2.2.2.2.calling⟩, fun U hU hW => ⟨rfl, by rw [hU], by rw [hU]; exact hP, va_K.moved hW.alike S.2.2.2.1, hD, NW.warm hW S.2.2.2.2.1⟩⟩ rfl hn hsz rfl (lv_room hcat) hdg hcs) hw hp kk
theorem v_iret {C : va_W} {sz : Nat} {Pq : Option Value → va_W → Prop} {v : Int32} (S : Fx p m c cc nL s args own meth (some .int) G (va_A C sz)) (hq : Pq (some (.int v)) ws) (hdg : decode cc pc = .ok (.ireturn, 1)) : V p l e R s m args below meth c G (va_A C sz) nL k n (MQ below (EQ G C sz Pq) args s k n (va_A C sz)) ws pc lv [.int v] :=
  fun H locs ls hP hD hS hl => W.iret (v := v) S.1.1 S.1.2.1 S.2.1 (fun t ht hW => ⟨⟨_, ws, rfl, hq, by rw [ht]; exact hP, va_K.moved hW.alike S.2.2.2.1, hD⟩, hS.F ht⟩) hS.2.2 hdg (hlocks := S.2.2.1)
theorem v_zret {C : va_W} {sz : Nat} {Pq : Option Value → va_W → Prop} {v : Int32} (S : Fx p m c cc nL s args own meth (some .boolean) G (va_A C sz)) (hn : narrow .boolean (.int v) = .int v) (hq : Pq (some (.int v)) ws) (hdg : decode cc pc = .ok (.ireturn, 1)) : V p l e R s m args below meth c G (va_A C sz) nL k n (MQ below (EQ G C sz Pq) args s k n (va_A C sz)) ws pc lv [.int v] :=
  fun H locs ls hP hD hS hl => W.zret (v := v) S.1.1 S.1.2.1 S.2.1 hn (fun t ht hW => ⟨⟨_, ws, rfl, hq, by rw [ht]; exact hP, va_K.moved hW.alike S.2.2.2.1, hD⟩, hS.F ht⟩) hS.2.2 hdg (hlocks := S.2.2.1)
theorem v_dret {C : va_W} {sz : Nat} {Pq : Option Value → va_W → Prop} {v : UInt64} (S : Fx p m c cc nL s args own meth (some .double) G (va_A C sz)) (hq : Pq (some (.double v)) ws) (hdg : decode cc pc = .ok (.dreturn, 1)) : V p l e R s m args below meth c G (va_A C sz) nL k n (MQ below (EQ G C sz Pq) args s k n (va_A C sz)) ws pc lv [.double v] :=
  fun H locs ls hP hD hS hl => W.dret (v := v) S.1.1 S.1.2.1 S.2.1 (fun t ht hW => ⟨⟨_, ws, rfl, hq, by rw [ht]; exact hP, va_K.moved hW.alike S.2.2.2.1, hD⟩, hS.F ht⟩) hS.2.2 hdg (hlocks := S.2.2.1)
theorem v_vret {C : va_W} {sz : Nat} {Pq : Option Value → va_W → Prop} (S : Fx p m c cc nL s args own meth none G (va_A C sz)) (hq : Pq none ws) (hdg : decode cc pc = .ok (.return_, 1)) : V p l e R s m args below meth c G (va_A C sz) nL k n (MQ below (EQ G C sz Pq) args s k n (va_A C sz)) ws pc lv [] :=
  fun H locs ls hP hD hS hl => W.vret S.1.1 S.1.2.1 S.2.1 (fun t ht hW => ⟨⟨_, ws, rfl, hq, by rw [ht]; exact hP, va_K.moved hW.alike S.2.2.2.1, hD⟩, hS.F ht⟩) hS.2.2 hdg (hlocks := S.2.2.1)
theorem v_perm (ws2 : va_W) (h : ws.Perm ws2) (kk : V p l e R s m args below meth c G A nL k n Q ws2 pc lv st) : V p l e R s m args below meth c G A nL k n Q ws pc lv st :=
  fun H locs ls hP hD hS hl => kk H locs ls (va_P.perm h hP) (va_D.perm h hD) hS hl
end VRows
theorem con_of {l : Launch} {G : GG} {y : MethodName} {b : ByteArray} {nL : Nat} {rt : Option FieldType} {rm : Room} {av : List Value} {C : va_W} {Pq : Option Value → va_W → Prop} {mc ms : Nat} (own : String) (ho : y.cls = own) (hpn : plainName y.cls = true) (lv0 : List (Nat × Value)) (hlv : lv_args 0 av = lv0) (hle : (lg_sl av).length ≤ nL)
    (body : ∀ (p : Program) (e : Env) (s : State) (m : MethodId) (args : Array Value) (below : List Frame) (meth : Method) (c : Code), Fx p m c b nL s args own meth rt G (va_A C s.heap.size) → meth.name = y.name → V p l e rm s m args below meth c G (va_A C s.heap.size) nL 0 0 (MQ below (EQ G C s.heap.size Pq) args s mc ms (va_A C s.heap.size)) C 0 lv0 []) : Con l G y b nL rt rm av C Pq mc ms := by
  intro sz
  refine Met.ofW (cc := b) (maxL := nL) (ret := rt) hpn rfl ?_
  intro p e s m args below meth c s₁ B hml hv
  obtain ⟨rfl, hsz, hP, hK, hD0, hN⟩ := hv
  subst hsz
  have hts := atoms_spec (ws := .code y b nL rt :: ub) B.pre
  have hl := lv_entry av (n := nL) hle
  rw [lg_entry_eq]
  rw [hlv] at hl
  exact body p e s m av.toArray below meth c ⟨⟨B.exec, B.bytes, hml, by rw [← ho]; exact findClass_of_methodNamed B.named, fun w h => hts w (List.mem_cons_of_mem _ h)⟩, B.returns, B.notSynchronized, hK, hN, fun q h => Or.inr h⟩ (name_of_methodNamed B.named B.method).1 s.heap [] _ hP (hD0.self) va_S.rf hl
end
section
theorem dX0_init_0 : decode cX0_init 0 = .ok (.aload_n 0, 1) := by decide +kernel
theorem dX0_init_1 : decode cX0_init 1 = .ok (.invokespecial 3, 3) := by decide +kernel
theorem dX0_init_4 : decode cX0_init 4 = .ok (.aload_n 0, 1) := by decide +kernel
theorem dX0_init_5 : decode cX0_init 5 = .ok (.bipush 10, 2) := by decide +kernel
theorem dX0_init_7 : decode cX0_init 7 = .ok (.newarray .int, 2) := by decide +kernel
theorem dX0_init_9 : decode cX0_init 9 = .ok (.putfield 9, 3) := by decide +kernel
theorem dX0_init_12 : decode cX0_init 12 = .ok (.aload_n 0, 1) := by decide +kernel
theorem dX0_init_13 : decode cX0_init 13 = .ok (.bipush 10, 2) := by decide +kernel
theorem dX0_init_15 : decode cX0_init 15 = .ok (.newarray .int, 2) := by decide +kernel
theorem dX0_init_17 : decode cX0_init 17 = .ok (.putfield 15, 3) := by decide +kernel
theorem dX0_init_20 : decode cX0_init 20 = .ok (.aload_n 0, 1) := by decide +kernel
theorem dX0_init_21 : decode cX0_init 21 = .ok (.iconst 0, 1) := by decide +kernel
theorem dX0_init_22 : decode cX0_init 22 = .ok (.putfield 18, 3) := by decide +kernel
theorem dX0_init_25 : decode cX0_init 25 = .ok (.aload_n 0, 1) := by decide +kernel
theorem dX0_init_26 : decode cX0_init 26 = .ok (.iconst 0, 1) := by decide +kernel
theorem dX0_init_27 : decode cX0_init 27 = .ok (.putfield 22, 3) := by decide +kernel
theorem dX0_init_30 : decode cX0_init 30 = .ok (.aload_n 0, 1) := by decide +kernel
theorem dX0_init_31 : decode cX0_init 31 = .ok (.iconst 0, 1) := by decide +kernel
theorem dX0_init_32 : decode cX0_init 32 = .ok (.putfield 25, 3) := by decide +kernel
theorem dX0_init_35 : decode cX0_init 35 = .ok (.aload_n 0, 1) := by decide +kernel
theorem dX0_init_36 : decode cX0_init 36 = .ok (.iconst 0, 1) := by decide +kernel
theorem dX0_init_37 : decode cX0_init 37 = .ok (.putfield 28, 3) := by decide +kernel
theorem dX0_init_40 : decode cX0_init 40 = .ok (.aload_n 0, 1) := by decide +kernel
theorem dX0_init_41 : decode cX0_init 41 = .ok (.iconst 0, 1) := by decide +kernel
theorem dX0_init_42 : decode cX0_init 42 = .ok (.putfield 31, 3) := by decide +kernel
theorem dX0_init_45 : decode cX0_init 45 = .ok (.return_, 1) := by decide +kernel
theorem dX0_copy_0 : decode cX0_copy 0 = .ok (.aload_n 1, 1) := by decide +kernel
theorem dX0_copy_1 : decode cX0_copy 1 = .ok (.getfield 9, 3) := by decide +kernel
theorem dX0_copy_4 : decode cX0_copy 4 = .ok (.iconst 0, 1) := by decide +kernel
theorem dX0_copy_5 : decode cX0_copy 5 = .ok (.aload_n 0, 1) := by decide +kernel
theorem dX0_copy_6 : decode cX0_copy 6 = .ok (.getfield 9, 3) := by decide +kernel
theorem dX0_copy_9 : decode cX0_copy 9 = .ok (.iconst 0, 1) := by decide +kernel
theorem dX0_copy_10 : decode cX0_copy 10 = .ok (.bipush 10, 2) := by decide +kernel
theorem dX0_copy_12 : decode cX0_copy 12 = .ok (.invokestatic 34, 3) := by decide +kernel
theorem dX0_copy_15 : decode cX0_copy 15 = .ok (.aload_n 1, 1) := by decide +kernel
theorem dX0_copy_16 : decode cX0_copy 16 = .ok (.getfield 15, 3) := by decide +kernel
theorem dX0_copy_19 : decode cX0_copy 19 = .ok (.iconst 0, 1) := by decide +kernel
theorem dX0_copy_20 : decode cX0_copy 20 = .ok (.aload_n 0, 1) := by decide +kernel
theorem dX0_copy_21 : decode cX0_copy 21 = .ok (.getfield 15, 3) := by decide +kernel
theorem dX0_copy_24 : decode cX0_copy 24 = .ok (.iconst 0, 1) := by decide +kernel
theorem dX0_copy_25 : decode cX0_copy 25 = .ok (.bipush 10, 2) := by decide +kernel
theorem dX0_copy_27 : decode cX0_copy 27 = .ok (.invokestatic 34, 3) := by decide +kernel
theorem dX0_copy_30 : decode cX0_copy 30 = .ok (.aload_n 0, 1) := by decide +kernel
theorem dX0_copy_31 : decode cX0_copy 31 = .ok (.aload_n 1, 1) := by decide +kernel
theorem dX0_copy_32 : decode cX0_copy 32 = .ok (.getfield 18, 3) := by decide +kernel
theorem dX0_copy_35 : decode cX0_copy 35 = .ok (.putfield 18, 3) := by decide +kernel
theorem dX0_copy_38 : decode cX0_copy 38 = .ok (.aload_n 0, 1) := by decide +kernel
theorem dX0_copy_39 : decode cX0_copy 39 = .ok (.aload_n 1, 1) := by decide +kernel
theorem dX0_copy_40 : decode cX0_copy 40 = .ok (.getfield 22, 3) := by decide +kernel
theorem dX0_copy_43 : decode cX0_copy 43 = .ok (.putfield 22, 3) := by decide +kernel
theorem dX0_copy_46 : decode cX0_copy 46 = .ok (.aload_n 0, 1) := by decide +kernel
theorem dX0_copy_47 : decode cX0_copy 47 = .ok (.aload_n 1, 1) := by decide +kernel
theorem dX0_copy_48 : decode cX0_copy 48 = .ok (.getfield 25, 3) := by decide +kernel
theorem dX0_copy_51 : decode cX0_copy 51 = .ok (.putfield 25, 3) := by decide +kernel
theorem dX0_copy_54 : decode cX0_copy 54 = .ok (.aload_n 0, 1) := by decide +kernel
theorem dX0_copy_55 : decode cX0_copy 55 = .ok (.aload_n 1, 1) := by decide +kernel
theorem dX0_copy_56 : decode cX0_copy 56 = .ok (.getfield 28, 3) := by decide +kernel
theorem dX0_copy_59 : decode cX0_copy 59 = .ok (.putfield 28, 3) := by decide +kernel
theorem dX0_copy_62 : decode cX0_copy 62 = .ok (.aload_n 0, 1) := by decide +kernel
theorem dX0_copy_63 : decode cX0_copy 63 = .ok (.aload_n 1, 1) := by decide +kernel
theorem dX0_copy_64 : decode cX0_copy 64 = .ok (.getfield 31, 3) := by decide +kernel
theorem dX0_copy_67 : decode cX0_copy 67 = .ok (.putfield 31, 3) := by decide +kernel
theorem dX0_copy_70 : decode cX0_copy 70 = .ok (.return_, 1) := by decide +kernel
theorem dX0_noteOpened_0 : decode cX0_noteOpened 0 = .ok (.aload_n 0, 1) := by decide +kernel
theorem dX0_noteOpened_1 : decode cX0_noteOpened 1 = .ok (.getfield 9, 3) := by decide +kernel
theorem dX0_noteOpened_4 : decode cX0_noteOpened 4 = .ok (.iload_n 1, 1) := by decide +kernel
theorem dX0_noteOpened_5 : decode cX0_noteOpened 5 = .ok (.dup2, 1) := by decide +kernel
theorem dX0_noteOpened_6 : decode cX0_noteOpened 6 = .ok (.iaload, 1) := by decide +kernel
theorem dX0_noteOpened_7 : decode cX0_noteOpened 7 = .ok (.iconst 1, 1) := by decide +kernel
theorem dX0_noteOpened_8 : decode cX0_noteOpened 8 = .ok (.iadd, 1) := by decide +kernel
theorem dX0_noteOpened_9 : decode cX0_noteOpened 9 = .ok (.iastore, 1) := by decide +kernel
theorem dX0_noteOpened_10 : decode cX0_noteOpened 10 = .ok (.aload_n 0, 1) := by decide +kernel
theorem dX0_noteOpened_11 : decode cX0_noteOpened 11 = .ok (.dup, 1) := by decide +kernel
theorem dX0_noteOpened_12 : decode cX0_noteOpened 12 = .ok (.getfield 18, 3) := by decide +kernel
theorem dX0_noteOpened_15 : decode cX0_noteOpened 15 = .ok (.iconst 1, 1) := by decide +kernel
theorem dX0_noteOpened_16 : decode cX0_noteOpened 16 = .ok (.iadd, 1) := by decide +kernel
theorem dX0_noteOpened_17 : decode cX0_noteOpened 17 = .ok (.putfield 18, 3) := by decide +kernel
theorem dX0_noteOpened_20 : decode cX0_noteOpened 20 = .ok (.return_, 1) := by decide +kernel
theorem dX0_noteShutByHand_0 : decode cX0_noteShutByHand 0 = .ok (.aload_n 0, 1) := by decide +kernel
theorem dX0_noteShutByHand_1 : decode cX0_noteShutByHand 1 = .ok (.getfield 15, 3) := by decide +kernel
theorem dX0_noteShutByHand_4 : decode cX0_noteShutByHand 4 = .ok (.iload_n 1, 1) := by decide +kernel
theorem dX0_noteShutByHand_5 : decode cX0_noteShutByHand 5 = .ok (.dup2, 1) := by decide +kernel
theorem dX0_noteShutByHand_6 : decode cX0_noteShutByHand 6 = .ok (.iaload, 1) := by decide +kernel
theorem dX0_noteShutByHand_7 : decode cX0_noteShutByHand 7 = .ok (.iconst 1, 1) := by decide +kernel
theorem dX0_noteShutByHand_8 : decode cX0_noteShutByHand 8 = .ok (.iadd, 1) := by decide +kernel
theorem dX0_noteShutByHand_9 : decode cX0_noteShutByHand 9 = .ok (.iastore, 1) := by decide +kernel
theorem dX0_noteShutByHand_10 : decode cX0_noteShutByHand 10 = .ok (.aload_n 0, 1) := by decide +kernel
theorem dX0_noteShutByHand_11 : decode cX0_noteShutByHand 11 = .ok (.dup, 1) := by decide +kernel
theorem dX0_noteShutByHand_12 : decode cX0_noteShutByHand 12 = .ok (.getfield 22, 3) := by decide +kernel
theorem dX0_noteShutByHand_15 : decode cX0_noteShutByHand 15 = .ok (.iconst 1, 1) := by decide +kernel
theorem dX0_noteShutByHand_16 : decode cX0_noteShutByHand 16 = .ok (.iadd, 1) := by decide +kernel
theorem dX0_noteShutByHand_17 : decode cX0_noteShutByHand 17 = .ok (.putfield 22, 3) := by decide +kernel
theorem dX0_noteShutByHand_20 : decode cX0_noteShutByHand 20 = .ok (.return_, 1) := by decide +kernel
theorem dX0_noteShutByOpening_0 : decode cX0_noteShutByOpening 0 = .ok (.aload_n 0, 1) := by decide +kernel
theorem dX0_noteShutByOpening_1 : decode cX0_noteShutByOpening 1 = .ok (.dup, 1) := by decide +kernel
theorem dX0_noteShutByOpening_2 : decode cX0_noteShutByOpening 2 = .ok (.getfield 25, 3) := by decide +kernel
theorem dX0_noteShutByOpening_5 : decode cX0_noteShutByOpening 5 = .ok (.iload_n 1, 1) := by decide +kernel
theorem dX0_noteShutByOpening_6 : decode cX0_noteShutByOpening 6 = .ok (.invokestatic 40, 3) := by decide +kernel
theorem dX0_noteShutByOpening_9 : decode cX0_noteShutByOpening 9 = .ok (.iadd, 1) := by decide +kernel
theorem dX0_noteShutByOpening_10 : decode cX0_noteShutByOpening 10 = .ok (.putfield 25, 3) := by decide +kernel
theorem dX0_noteShutByOpening_13 : decode cX0_noteShutByOpening 13 = .ok (.aload_n 0, 1) := by decide +kernel
theorem dX0_noteShutByOpening_14 : decode cX0_noteShutByOpening 14 = .ok (.dup, 1) := by decide +kernel
theorem dX0_noteShutByOpening_15 : decode cX0_noteShutByOpening 15 = .ok (.getfield 28, 3) := by decide +kernel
theorem dX0_noteShutByOpening_18 : decode cX0_noteShutByOpening 18 = .ok (.iload_n 2, 1) := by decide +kernel
theorem dX0_noteShutByOpening_19 : decode cX0_noteShutByOpening 19 = .ok (.invokestatic 40, 3) := by decide +kernel
theorem dX0_noteShutByOpening_22 : decode cX0_noteShutByOpening 22 = .ok (.iadd, 1) := by decide +kernel
theorem dX0_noteShutByOpening_23 : decode cX0_noteShutByOpening 23 = .ok (.putfield 28, 3) := by decide +kernel
theorem dX0_noteShutByOpening_26 : decode cX0_noteShutByOpening 26 = .ok (.iconst 0, 1) := by decide +kernel
theorem dX0_noteShutByOpening_27 : decode cX0_noteShutByOpening 27 = .ok (.istore_n 3, 1) := by decide +kernel
theorem dX0_noteShutByOpening_28 : decode cX0_noteShutByOpening 28 = .ok (.iload_n 3, 1) := by decide +kernel
theorem dX0_noteShutByOpening_29 : decode cX0_noteShutByOpening 29 = .ok (.bipush 10, 2) := by decide +kernel
theorem dX0_noteShutByOpening_31 : decode cX0_noteShutByOpening 31 = .ok (.if_icmp .ge 29, 3) := by decide +kernel
theorem dX0_noteShutByOpening_34 : decode cX0_noteShutByOpening 34 = .ok (.iload_n 1, 1) := by decide +kernel
theorem dX0_noteShutByOpening_35 : decode cX0_noteShutByOpening 35 = .ok (.iload_n 2, 1) := by decide +kernel
theorem dX0_noteShutByOpening_36 : decode cX0_noteShutByOpening 36 = .ok (.ior, 1) := by decide +kernel
theorem dX0_noteShutByOpening_37 : decode cX0_noteShutByOpening 37 = .ok (.iload_n 3, 1) := by decide +kernel
theorem dX0_noteShutByOpening_38 : decode cX0_noteShutByOpening 38 = .ok (.invokestatic 46, 3) := by decide +kernel
theorem dX0_noteShutByOpening_41 : decode cX0_noteShutByOpening 41 = .ok (.ifCond .eq 13, 3) := by decide +kernel
theorem dX0_noteShutByOpening_44 : decode cX0_noteShutByOpening 44 = .ok (.aload_n 0, 1) := by decide +kernel
theorem dX0_noteShutByOpening_45 : decode cX0_noteShutByOpening 45 = .ok (.getfield 15, 3) := by decide +kernel
theorem dX0_noteShutByOpening_48 : decode cX0_noteShutByOpening 48 = .ok (.iload_n 3, 1) := by decide +kernel
theorem dX0_noteShutByOpening_49 : decode cX0_noteShutByOpening 49 = .ok (.dup2, 1) := by decide +kernel
theorem dX0_noteShutByOpening_50 : decode cX0_noteShutByOpening 50 = .ok (.iaload, 1) := by decide +kernel
theorem dX0_noteShutByOpening_51 : decode cX0_noteShutByOpening 51 = .ok (.iconst 1, 1) := by decide +kernel
theorem dX0_noteShutByOpening_52 : decode cX0_noteShutByOpening 52 = .ok (.iadd, 1) := by decide +kernel
theorem dX0_noteShutByOpening_53 : decode cX0_noteShutByOpening 53 = .ok (.iastore, 1) := by decide +kernel
theorem dX0_noteShutByOpening_54 : decode cX0_noteShutByOpening 54 = .ok (.iinc 3 1, 3) := by decide +kernel
theorem dX0_noteShutByOpening_57 : decode cX0_noteShutByOpening 57 = .ok (.goto (-29), 3) := by decide +kernel
theorem dX0_noteShutByOpening_60 : decode cX0_noteShutByOpening 60 = .ok (.return_, 1) := by decide +kernel
theorem dX0_noteRefused_0 : decode cX0_noteRefused 0 = .ok (.aload_n 0, 1) := by decide +kernel
theorem dX0_noteRefused_1 : decode cX0_noteRefused 1 = .ok (.dup, 1) := by decide +kernel
theorem dX0_noteRefused_2 : decode cX0_noteRefused 2 = .ok (.getfield 31, 3) := by decide +kernel
theorem dX0_noteRefused_5 : decode cX0_noteRefused 5 = .ok (.iconst 1, 1) := by decide +kernel
theorem dX0_noteRefused_6 : decode cX0_noteRefused 6 = .ok (.iadd, 1) := by decide +kernel
theorem dX0_noteRefused_7 : decode cX0_noteRefused 7 = .ok (.putfield 31, 3) := by decide +kernel
theorem dX0_noteRefused_10 : decode cX0_noteRefused 10 = .ok (.iload_n 1, 1) := by decide +kernel
theorem dX0_noteRefused_11 : decode cX0_noteRefused 11 = .ok (.ireturn, 1) := by decide +kernel
theorem dX1_init_0 : decode cX1_init 0 = .ok (.aload_n 0, 1) := by decide +kernel
theorem dX1_init_1 : decode cX1_init 1 = .ok (.invokespecial 3, 3) := by decide +kernel
theorem dX1_init_4 : decode cX1_init 4 = .ok (.aload_n 0, 1) := by decide +kernel
theorem dX1_init_5 : decode cX1_init 5 = .ok (.iconst 3, 1) := by decide +kernel
theorem dX1_init_6 : decode cX1_init 6 = .ok (.newarray .int, 2) := by decide +kernel
theorem dX1_init_8 : decode cX1_init 8 = .ok (.putfield 9, 3) := by decide +kernel
theorem dX1_init_11 : decode cX1_init 11 = .ok (.aload_n 0, 1) := by decide +kernel
theorem dX1_init_12 : decode cX1_init 12 = .ok (.iconst 3, 1) := by decide +kernel
theorem dX1_init_13 : decode cX1_init 13 = .ok (.newarray .int, 2) := by decide +kernel
theorem dX1_init_15 : decode cX1_init 15 = .ok (.putfield 15, 3) := by decide +kernel
theorem dX1_init_18 : decode cX1_init 18 = .ok (.aload_n 0, 1) := by decide +kernel
theorem dX1_init_19 : decode cX1_init 19 = .ok (.iconst 3, 1) := by decide +kernel
theorem dX1_init_20 : decode cX1_init 20 = .ok (.newarray .int, 2) := by decide +kernel
theorem dX1_init_22 : decode cX1_init 22 = .ok (.putfield 18, 3) := by decide +kernel
theorem dX1_init_25 : decode cX1_init 25 = .ok (.return_, 1) := by decide +kernel
theorem dX1_copy_0 : decode cX1_copy 0 = .ok (.aload_n 1, 1) := by decide +kernel
theorem dX1_copy_1 : decode cX1_copy 1 = .ok (.getfield 9, 3) := by decide +kernel
theorem dX1_copy_4 : decode cX1_copy 4 = .ok (.iconst 0, 1) := by decide +kernel
theorem dX1_copy_5 : decode cX1_copy 5 = .ok (.aload_n 0, 1) := by decide +kernel
theorem dX1_copy_6 : decode cX1_copy 6 = .ok (.getfield 9, 3) := by decide +kernel
theorem dX1_copy_9 : decode cX1_copy 9 = .ok (.iconst 0, 1) := by decide +kernel
theorem dX1_copy_10 : decode cX1_copy 10 = .ok (.iconst 3, 1) := by decide +kernel
theorem dX1_copy_11 : decode cX1_copy 11 = .ok (.invokestatic 21, 3) := by decide +kernel
theorem dX1_copy_14 : decode cX1_copy 14 = .ok (.aload_n 1, 1) := by decide +kernel
theorem dX1_copy_15 : decode cX1_copy 15 = .ok (.getfield 15, 3) := by decide +kernel
theorem dX1_copy_18 : decode cX1_copy 18 = .ok (.iconst 0, 1) := by decide +kernel
theorem dX1_copy_19 : decode cX1_copy 19 = .ok (.aload_n 0, 1) := by decide +kernel
theorem dX1_copy_20 : decode cX1_copy 20 = .ok (.getfield 15, 3) := by decide +kernel
theorem dX1_copy_23 : decode cX1_copy 23 = .ok (.iconst 0, 1) := by decide +kernel
theorem dX1_copy_24 : decode cX1_copy 24 = .ok (.iconst 3, 1) := by decide +kernel
theorem dX1_copy_25 : decode cX1_copy 25 = .ok (.invokestatic 21, 3) := by decide +kernel
theorem dX1_copy_28 : decode cX1_copy 28 = .ok (.aload_n 1, 1) := by decide +kernel
theorem dX1_copy_29 : decode cX1_copy 29 = .ok (.getfield 18, 3) := by decide +kernel
theorem dX1_copy_32 : decode cX1_copy 32 = .ok (.iconst 0, 1) := by decide +kernel
theorem dX1_copy_33 : decode cX1_copy 33 = .ok (.aload_n 0, 1) := by decide +kernel
theorem dX1_copy_34 : decode cX1_copy 34 = .ok (.getfield 18, 3) := by decide +kernel
theorem dX1_copy_37 : decode cX1_copy 37 = .ok (.iconst 0, 1) := by decide +kernel
theorem dX1_copy_38 : decode cX1_copy 38 = .ok (.iconst 3, 1) := by decide +kernel
theorem dX1_copy_39 : decode cX1_copy 39 = .ok (.invokestatic 21, 3) := by decide +kernel
theorem dX1_copy_42 : decode cX1_copy 42 = .ok (.return_, 1) := by decide +kernel
theorem dX1_howManyIn_0 : decode cX1_howManyIn 0 = .ok (.iconst 0, 1) := by decide +kernel
theorem dX1_howManyIn_1 : decode cX1_howManyIn 1 = .ok (.istore_n 2, 1) := by decide +kernel
theorem dX1_howManyIn_2 : decode cX1_howManyIn 2 = .ok (.iconst 0, 1) := by decide +kernel
theorem dX1_howManyIn_3 : decode cX1_howManyIn 3 = .ok (.istore_n 3, 1) := by decide +kernel
theorem dX1_howManyIn_4 : decode cX1_howManyIn 4 = .ok (.iload_n 3, 1) := by decide +kernel
theorem dX1_howManyIn_5 : decode cX1_howManyIn 5 = .ok (.iconst 3, 1) := by decide +kernel
theorem dX1_howManyIn_6 : decode cX1_howManyIn 6 = .ok (.if_icmp .ge 22, 3) := by decide +kernel
theorem dX1_howManyIn_9 : decode cX1_howManyIn 9 = .ok (.aload_n 0, 1) := by decide +kernel
theorem dX1_howManyIn_10 : decode cX1_howManyIn 10 = .ok (.getfield 9, 3) := by decide +kernel
theorem dX1_howManyIn_13 : decode cX1_howManyIn 13 = .ok (.iload_n 3, 1) := by decide +kernel
theorem dX1_howManyIn_14 : decode cX1_howManyIn 14 = .ok (.iaload, 1) := by decide +kernel
theorem dX1_howManyIn_15 : decode cX1_howManyIn 15 = .ok (.iload_n 1, 1) := by decide +kernel
theorem dX1_howManyIn_16 : decode cX1_howManyIn 16 = .ok (.if_icmp .ne 6, 3) := by decide +kernel
theorem dX1_howManyIn_19 : decode cX1_howManyIn 19 = .ok (.iinc 2 1, 3) := by decide +kernel
theorem dX1_howManyIn_22 : decode cX1_howManyIn 22 = .ok (.iinc 3 1, 3) := by decide +kernel
theorem dX1_howManyIn_25 : decode cX1_howManyIn 25 = .ok (.goto (-21), 3) := by decide +kernel
theorem dX1_howManyIn_28 : decode cX1_howManyIn 28 = .ok (.iload_n 2, 1) := by decide +kernel
theorem dX1_howManyIn_29 : decode cX1_howManyIn 29 = .ok (.ireturn, 1) := by decide +kernel
theorem dX2_init_0 : decode cX2_init 0 = .ok (.aload_n 0, 1) := by decide +kernel
theorem dX2_init_1 : decode cX2_init 1 = .ok (.invokespecial 3, 3) := by decide +kernel
theorem dX2_init_4 : decode cX2_init 4 = .ok (.aload_n 0, 1) := by decide +kernel
theorem dX2_init_5 : decode cX2_init 5 = .ok (.iconst 4, 1) := by decide +kernel
theorem dX2_init_6 : decode cX2_init 6 = .ok (.anewarray 9, 3) := by decide +kernel
theorem dX2_init_9 : decode cX2_init 9 = .ok (.putfield 11, 3) := by decide +kernel
theorem dX2_init_12 : decode cX2_init 12 = .ok (.aload_n 0, 1) := by decide +kernel
theorem dX2_init_13 : decode cX2_init 13 = .ok (.iconst 0, 1) := by decide +kernel
theorem dX2_init_14 : decode cX2_init 14 = .ok (.putfield 17, 3) := by decide +kernel
theorem dX2_init_17 : decode cX2_init 17 = .ok (.aload_n 0, 1) := by decide +kernel
theorem dX2_init_18 : decode cX2_init 18 = .ok (.iconst 0, 1) := by decide +kernel
theorem dX2_init_19 : decode cX2_init 19 = .ok (.putfield 21, 3) := by decide +kernel
theorem dX2_init_22 : decode cX2_init 22 = .ok (.iconst 0, 1) := by decide +kernel
theorem dX2_init_23 : decode cX2_init 23 = .ok (.istore_n 1, 1) := by decide +kernel
theorem dX2_init_24 : decode cX2_init 24 = .ok (.iload_n 1, 1) := by decide +kernel
theorem dX2_init_25 : decode cX2_init 25 = .ok (.iconst 4, 1) := by decide +kernel
theorem dX2_init_26 : decode cX2_init 26 = .ok (.if_icmp .ge 22, 3) := by decide +kernel
theorem dX2_init_29 : decode cX2_init 29 = .ok (.aload_n 0, 1) := by decide +kernel
theorem dX2_init_30 : decode cX2_init 30 = .ok (.getfield 11, 3) := by decide +kernel
theorem dX2_init_33 : decode cX2_init 33 = .ok (.iload_n 1, 1) := by decide +kernel
theorem dX2_init_34 : decode cX2_init 34 = .ok (.new 9, 3) := by decide +kernel
theorem dX2_init_37 : decode cX2_init 37 = .ok (.dup, 1) := by decide +kernel
theorem dX2_init_38 : decode cX2_init 38 = .ok (.invokespecial 24, 3) := by decide +kernel
theorem dX2_init_41 : decode cX2_init 41 = .ok (.aastore, 1) := by decide +kernel
theorem dX2_init_42 : decode cX2_init 42 = .ok (.iinc 1 1, 3) := by decide +kernel
theorem dX2_init_45 : decode cX2_init 45 = .ok (.goto (-21), 3) := by decide +kernel
theorem dX2_init_48 : decode cX2_init 48 = .ok (.return_, 1) := by decide +kernel
theorem dX2_record_0 : decode cX2_record 0 = .ok (.aload_n 0, 1) := by decide +kernel
theorem dX2_record_1 : decode cX2_record 1 = .ok (.getfield 11, 3) := by decide +kernel
theorem dX2_record_4 : decode cX2_record 4 = .ok (.aload_n 0, 1) := by decide +kernel
theorem dX2_record_5 : decode cX2_record 5 = .ok (.getfield 17, 3) := by decide +kernel
theorem dX2_record_8 : decode cX2_record 8 = .ok (.aload_n 0, 1) := by decide +kernel
theorem dX2_record_9 : decode cX2_record 9 = .ok (.getfield 21, 3) := by decide +kernel
theorem dX2_record_12 : decode cX2_record 12 = .ok (.iadd, 1) := by decide +kernel
theorem dX2_record_13 : decode cX2_record 13 = .ok (.iconst 4, 1) := by decide +kernel
theorem dX2_record_14 : decode cX2_record 14 = .ok (.irem, 1) := by decide +kernel
theorem dX2_record_15 : decode cX2_record 15 = .ok (.aaload, 1) := by decide +kernel
theorem dX2_record_16 : decode cX2_record 16 = .ok (.aload_n 1, 1) := by decide +kernel
theorem dX2_record_17 : decode cX2_record 17 = .ok (.invokevirtual 25, 3) := by decide +kernel
theorem dX2_record_20 : decode cX2_record 20 = .ok (.aload_n 0, 1) := by decide +kernel
theorem dX2_record_21 : decode cX2_record 21 = .ok (.getfield 21, 3) := by decide +kernel
theorem dX2_record_24 : decode cX2_record 24 = .ok (.iconst 4, 1) := by decide +kernel
theorem dX2_record_25 : decode cX2_record 25 = .ok (.if_icmp .ge 16, 3) := by decide +kernel
theorem dX2_record_28 : decode cX2_record 28 = .ok (.aload_n 0, 1) := by decide +kernel
theorem dX2_record_29 : decode cX2_record 29 = .ok (.dup, 1) := by decide +kernel
theorem dX2_record_30 : decode cX2_record 30 = .ok (.getfield 21, 3) := by decide +kernel
theorem dX2_record_33 : decode cX2_record 33 = .ok (.iconst 1, 1) := by decide +kernel
theorem dX2_record_34 : decode cX2_record 34 = .ok (.iadd, 1) := by decide +kernel
theorem dX2_record_35 : decode cX2_record 35 = .ok (.putfield 21, 3) := by decide +kernel
theorem dX2_record_38 : decode cX2_record 38 = .ok (.goto 15, 3) := by decide +kernel
theorem dX2_record_41 : decode cX2_record 41 = .ok (.aload_n 0, 1) := by decide +kernel
theorem dX2_record_42 : decode cX2_record 42 = .ok (.aload_n 0, 1) := by decide +kernel
theorem dX2_record_43 : decode cX2_record 43 = .ok (.getfield 17, 3) := by decide +kernel
theorem dX2_record_46 : decode cX2_record 46 = .ok (.iconst 1, 1) := by decide +kernel
theorem dX2_record_47 : decode cX2_record 47 = .ok (.iadd, 1) := by decide +kernel
theorem dX2_record_48 : decode cX2_record 48 = .ok (.iconst 4, 1) := by decide +kernel
theorem dX2_record_49 : decode cX2_record 49 = .ok (.irem, 1) := by decide +kernel
theorem dX2_record_50 : decode cX2_record 50 = .ok (.putfield 17, 3) := by decide +kernel
theorem dX2_record_53 : decode cX2_record 53 = .ok (.return_, 1) := by decide +kernel
theorem dX2_takeBack_0 : decode cX2_takeBack 0 = .ok (.aload_n 0, 1) := by decide +kernel
theorem dX2_takeBack_1 : decode cX2_takeBack 1 = .ok (.getfield 21, 3) := by decide +kernel
theorem dX2_takeBack_4 : decode cX2_takeBack 4 = .ok (.ifCond .le 33, 3) := by decide +kernel
theorem dX2_takeBack_7 : decode cX2_takeBack 7 = .ok (.aload_n 0, 1) := by decide +kernel
theorem dX2_takeBack_8 : decode cX2_takeBack 8 = .ok (.dup, 1) := by decide +kernel
theorem dX2_takeBack_9 : decode cX2_takeBack 9 = .ok (.getfield 21, 3) := by decide +kernel
theorem dX2_takeBack_12 : decode cX2_takeBack 12 = .ok (.iconst 1, 1) := by decide +kernel
theorem dX2_takeBack_13 : decode cX2_takeBack 13 = .ok (.isub, 1) := by decide +kernel
theorem dX2_takeBack_14 : decode cX2_takeBack 14 = .ok (.putfield 21, 3) := by decide +kernel
theorem dX2_takeBack_17 : decode cX2_takeBack 17 = .ok (.aload_n 1, 1) := by decide +kernel
theorem dX2_takeBack_18 : decode cX2_takeBack 18 = .ok (.aload_n 0, 1) := by decide +kernel
theorem dX2_takeBack_19 : decode cX2_takeBack 19 = .ok (.getfield 11, 3) := by decide +kernel
theorem dX2_takeBack_22 : decode cX2_takeBack 22 = .ok (.aload_n 0, 1) := by decide +kernel
theorem dX2_takeBack_23 : decode cX2_takeBack 23 = .ok (.getfield 17, 3) := by decide +kernel
theorem dX2_takeBack_26 : decode cX2_takeBack 26 = .ok (.aload_n 0, 1) := by decide +kernel
theorem dX2_takeBack_27 : decode cX2_takeBack 27 = .ok (.getfield 21, 3) := by decide +kernel
theorem dX2_takeBack_30 : decode cX2_takeBack 30 = .ok (.iadd, 1) := by decide +kernel
theorem dX2_takeBack_31 : decode cX2_takeBack 31 = .ok (.iconst 4, 1) := by decide +kernel
theorem dX2_takeBack_32 : decode cX2_takeBack 32 = .ok (.irem, 1) := by decide +kernel
theorem dX2_takeBack_33 : decode cX2_takeBack 33 = .ok (.aaload, 1) := by decide +kernel
theorem dX2_takeBack_34 : decode cX2_takeBack 34 = .ok (.invokevirtual 25, 3) := by decide +kernel
theorem dX2_takeBack_37 : decode cX2_takeBack 37 = .ok (.return_, 1) := by decide +kernel
theorem dX3_init_0 : decode cX3_init 0 = .ok (.aload_n 0, 1) := by decide +kernel
theorem dX3_init_1 : decode cX3_init 1 = .ok (.invokespecial 3, 3) := by decide +kernel
theorem dX3_init_4 : decode cX3_init 4 = .ok (.aload_n 0, 1) := by decide +kernel
theorem dX3_init_5 : decode cX3_init 5 = .ok (.bipush 10, 2) := by decide +kernel
theorem dX3_init_7 : decode cX3_init 7 = .ok (.newarray .int, 2) := by decide +kernel
theorem dX3_init_9 : decode cX3_init 9 = .ok (.putfield 9, 3) := by decide +kernel
theorem dX3_init_12 : decode cX3_init 12 = .ok (.aload_n 0, 1) := by decide +kernel
theorem dX3_init_13 : decode cX3_init 13 = .ok (.bipush 10, 2) := by decide +kernel
theorem dX3_init_15 : decode cX3_init 15 = .ok (.newarray .int, 2) := by decide +kernel
theorem dX3_init_17 : decode cX3_init 17 = .ok (.putfield 15, 3) := by decide +kernel
theorem dX3_init_20 : decode cX3_init 20 = .ok (.aload_n 0, 1) := by decide +kernel
theorem dX3_init_21 : decode cX3_init 21 = .ok (.bipush 10, 2) := by decide +kernel
theorem dX3_init_23 : decode cX3_init 23 = .ok (.newarray .int, 2) := by decide +kernel
theorem dX3_init_25 : decode cX3_init 25 = .ok (.putfield 18, 3) := by decide +kernel
theorem dX3_init_28 : decode cX3_init 28 = .ok (.aload_n 0, 1) := by decide +kernel
theorem dX3_init_29 : decode cX3_init 29 = .ok (.bipush 10, 2) := by decide +kernel
theorem dX3_init_31 : decode cX3_init 31 = .ok (.newarray .int, 2) := by decide +kernel
theorem dX3_init_33 : decode cX3_init 33 = .ok (.putfield 21, 3) := by decide +kernel
theorem dX3_init_36 : decode cX3_init 36 = .ok (.aload_n 0, 1) := by decide +kernel
theorem dX3_init_37 : decode cX3_init 37 = .ok (.bipush 6, 2) := by decide +kernel
theorem dX3_init_39 : decode cX3_init 39 = .ok (.newarray .int, 2) := by decide +kernel
theorem dX3_init_41 : decode cX3_init 41 = .ok (.putfield 24, 3) := by decide +kernel
theorem dX3_init_44 : decode cX3_init 44 = .ok (.aload_n 0, 1) := by decide +kernel
theorem dX3_init_45 : decode cX3_init 45 = .ok (.iconst 3, 1) := by decide +kernel
theorem dX3_init_46 : decode cX3_init 46 = .ok (.putfield 27, 3) := by decide +kernel
theorem dX3_init_49 : decode cX3_init 49 = .ok (.iconst 0, 1) := by decide +kernel
theorem dX3_init_50 : decode cX3_init 50 = .ok (.istore_n 1, 1) := by decide +kernel
theorem dX3_init_51 : decode cX3_init 51 = .ok (.iload_n 1, 1) := by decide +kernel
theorem dX3_init_52 : decode cX3_init 52 = .ok (.bipush 10, 2) := by decide +kernel
theorem dX3_init_54 : decode cX3_init 54 = .ok (.if_icmp .ge 48, 3) := by decide +kernel
theorem dX3_init_57 : decode cX3_init 57 = .ok (.aload_n 0, 1) := by decide +kernel
theorem dX3_init_58 : decode cX3_init 58 = .ok (.getfield 9, 3) := by decide +kernel
theorem dX3_init_61 : decode cX3_init 61 = .ok (.iload_n 1, 1) := by decide +kernel
theorem dX3_init_62 : decode cX3_init 62 = .ok (.iload_n 1, 1) := by decide +kernel
theorem dX3_init_63 : decode cX3_init 63 = .ok (.iconst 1, 1) := by decide +kernel
theorem dX3_init_64 : decode cX3_init 64 = .ok (.iadd, 1) := by decide +kernel
theorem dX3_init_65 : decode cX3_init 65 = .ok (.bipush 10, 2) := by decide +kernel
theorem dX3_init_67 : decode cX3_init 67 = .ok (.irem, 1) := by decide +kernel
theorem dX3_init_68 : decode cX3_init 68 = .ok (.iastore, 1) := by decide +kernel
theorem dX3_init_69 : decode cX3_init 69 = .ok (.aload_n 0, 1) := by decide +kernel
theorem dX3_init_70 : decode cX3_init 70 = .ok (.getfield 15, 3) := by decide +kernel
theorem dX3_init_73 : decode cX3_init 73 = .ok (.iload_n 1, 1) := by decide +kernel
theorem dX3_init_74 : decode cX3_init 74 = .ok (.iload_n 1, 1) := by decide +kernel
theorem dX3_init_75 : decode cX3_init 75 = .ok (.iconst 3, 1) := by decide +kernel
theorem dX3_init_76 : decode cX3_init 76 = .ok (.iadd, 1) := by decide +kernel
theorem dX3_init_77 : decode cX3_init 77 = .ok (.bipush 10, 2) := by decide +kernel
theorem dX3_init_79 : decode cX3_init 79 = .ok (.irem, 1) := by decide +kernel
theorem dX3_init_80 : decode cX3_init 80 = .ok (.iastore, 1) := by decide +kernel
theorem dX3_init_81 : decode cX3_init 81 = .ok (.aload_n 0, 1) := by decide +kernel
theorem dX3_init_82 : decode cX3_init 82 = .ok (.iload_n 1, 1) := by decide +kernel
theorem dX3_init_83 : decode cX3_init 83 = .ok (.iload_n 1, 1) := by decide +kernel
theorem dX3_init_84 : decode cX3_init 84 = .ok (.bipush 6, 2) := by decide +kernel
theorem dX3_init_86 : decode cX3_init 86 = .ok (.irem, 1) := by decide +kernel
theorem dX3_init_87 : decode cX3_init 87 = .ok (.iload_n 1, 1) := by decide +kernel
theorem dX3_init_88 : decode cX3_init 88 = .ok (.iconst 1, 1) := by decide +kernel
theorem dX3_init_89 : decode cX3_init 89 = .ok (.iadd, 1) := by decide +kernel
theorem dX3_init_90 : decode cX3_init 90 = .ok (.bipush 6, 2) := by decide +kernel
theorem dX3_init_92 : decode cX3_init 92 = .ok (.irem, 1) := by decide +kernel
theorem dX3_init_93 : decode cX3_init 93 = .ok (.invokevirtual 31, 3) := by decide +kernel
theorem dX3_init_96 : decode cX3_init 96 = .ok (.iinc 1 1, 3) := by decide +kernel
theorem dX3_init_99 : decode cX3_init 99 = .ok (.goto (-48), 3) := by decide +kernel
theorem dX3_init_102 : decode cX3_init 102 = .ok (.return_, 1) := by decide +kernel
theorem dX3_copy_0 : decode cX3_copy 0 = .ok (.aload_n 1, 1) := by decide +kernel
theorem dX3_copy_1 : decode cX3_copy 1 = .ok (.getfield 9, 3) := by decide +kernel
theorem dX3_copy_4 : decode cX3_copy 4 = .ok (.iconst 0, 1) := by decide +kernel
theorem dX3_copy_5 : decode cX3_copy 5 = .ok (.aload_n 0, 1) := by decide +kernel
theorem dX3_copy_6 : decode cX3_copy 6 = .ok (.getfield 9, 3) := by decide +kernel
theorem dX3_copy_9 : decode cX3_copy 9 = .ok (.iconst 0, 1) := by decide +kernel
theorem dX3_copy_10 : decode cX3_copy 10 = .ok (.bipush 10, 2) := by decide +kernel
theorem dX3_copy_12 : decode cX3_copy 12 = .ok (.invokestatic 35, 3) := by decide +kernel
theorem dX3_copy_15 : decode cX3_copy 15 = .ok (.aload_n 1, 1) := by decide +kernel
theorem dX3_copy_16 : decode cX3_copy 16 = .ok (.getfield 15, 3) := by decide +kernel
theorem dX3_copy_19 : decode cX3_copy 19 = .ok (.iconst 0, 1) := by decide +kernel
theorem dX3_copy_20 : decode cX3_copy 20 = .ok (.aload_n 0, 1) := by decide +kernel
theorem dX3_copy_21 : decode cX3_copy 21 = .ok (.getfield 15, 3) := by decide +kernel
theorem dX3_copy_24 : decode cX3_copy 24 = .ok (.iconst 0, 1) := by decide +kernel
theorem dX3_copy_25 : decode cX3_copy 25 = .ok (.bipush 10, 2) := by decide +kernel
theorem dX3_copy_27 : decode cX3_copy 27 = .ok (.invokestatic 35, 3) := by decide +kernel
theorem dX3_copy_30 : decode cX3_copy 30 = .ok (.aload_n 1, 1) := by decide +kernel
theorem dX3_copy_31 : decode cX3_copy 31 = .ok (.getfield 18, 3) := by decide +kernel
theorem dX3_copy_34 : decode cX3_copy 34 = .ok (.iconst 0, 1) := by decide +kernel
theorem dX3_copy_35 : decode cX3_copy 35 = .ok (.aload_n 0, 1) := by decide +kernel
theorem dX3_copy_36 : decode cX3_copy 36 = .ok (.getfield 18, 3) := by decide +kernel
theorem dX3_copy_39 : decode cX3_copy 39 = .ok (.iconst 0, 1) := by decide +kernel
theorem dX3_copy_40 : decode cX3_copy 40 = .ok (.bipush 10, 2) := by decide +kernel
theorem dX3_copy_42 : decode cX3_copy 42 = .ok (.invokestatic 35, 3) := by decide +kernel
theorem dX3_copy_45 : decode cX3_copy 45 = .ok (.aload_n 1, 1) := by decide +kernel
theorem dX3_copy_46 : decode cX3_copy 46 = .ok (.getfield 21, 3) := by decide +kernel
theorem dX3_copy_49 : decode cX3_copy 49 = .ok (.iconst 0, 1) := by decide +kernel
theorem dX3_copy_50 : decode cX3_copy 50 = .ok (.aload_n 0, 1) := by decide +kernel
theorem dX3_copy_51 : decode cX3_copy 51 = .ok (.getfield 21, 3) := by decide +kernel
theorem dX3_copy_54 : decode cX3_copy 54 = .ok (.iconst 0, 1) := by decide +kernel
theorem dX3_copy_55 : decode cX3_copy 55 = .ok (.bipush 10, 2) := by decide +kernel
theorem dX3_copy_57 : decode cX3_copy 57 = .ok (.invokestatic 35, 3) := by decide +kernel
theorem dX3_copy_60 : decode cX3_copy 60 = .ok (.aload_n 1, 1) := by decide +kernel
theorem dX3_copy_61 : decode cX3_copy 61 = .ok (.getfield 24, 3) := by decide +kernel
theorem dX3_copy_64 : decode cX3_copy 64 = .ok (.iconst 0, 1) := by decide +kernel
theorem dX3_copy_65 : decode cX3_copy 65 = .ok (.aload_n 0, 1) := by decide +kernel
theorem dX3_copy_66 : decode cX3_copy 66 = .ok (.getfield 24, 3) := by decide +kernel
theorem dX3_copy_69 : decode cX3_copy 69 = .ok (.iconst 0, 1) := by decide +kernel
theorem dX3_copy_70 : decode cX3_copy 70 = .ok (.bipush 6, 2) := by decide +kernel
theorem dX3_copy_72 : decode cX3_copy 72 = .ok (.invokestatic 35, 3) := by decide +kernel
theorem dX3_copy_75 : decode cX3_copy 75 = .ok (.aload_n 0, 1) := by decide +kernel
theorem dX3_copy_76 : decode cX3_copy 76 = .ok (.aload_n 1, 1) := by decide +kernel
theorem dX3_copy_77 : decode cX3_copy 77 = .ok (.getfield 27, 3) := by decide +kernel
theorem dX3_copy_80 : decode cX3_copy 80 = .ok (.putfield 27, 3) := by decide +kernel
theorem dX3_copy_83 : decode cX3_copy 83 = .ok (.return_, 1) := by decide +kernel
theorem dX3_hang_0 : decode cX3_hang 0 = .ok (.aload_n 0, 1) := by decide +kernel
theorem dX3_hang_1 : decode cX3_hang 1 = .ok (.getfield 24, 3) := by decide +kernel
theorem dX3_hang_4 : decode cX3_hang 4 = .ok (.aload_n 0, 1) := by decide +kernel
theorem dX3_hang_5 : decode cX3_hang 5 = .ok (.getfield 18, 3) := by decide +kernel
theorem dX3_hang_8 : decode cX3_hang 8 = .ok (.iload_n 1, 1) := by decide +kernel
theorem dX3_hang_9 : decode cX3_hang 9 = .ok (.iaload, 1) := by decide +kernel
theorem dX3_hang_10 : decode cX3_hang 10 = .ok (.dup2, 1) := by decide +kernel
theorem dX3_hang_11 : decode cX3_hang 11 = .ok (.iaload, 1) := by decide +kernel
theorem dX3_hang_12 : decode cX3_hang 12 = .ok (.iconst 1, 1) := by decide +kernel
theorem dX3_hang_13 : decode cX3_hang 13 = .ok (.iload_n 1, 1) := by decide +kernel
theorem dX3_hang_14 : decode cX3_hang 14 = .ok (.ishl, 1) := by decide +kernel
theorem dX3_hang_15 : decode cX3_hang 15 = .ok (.iconst (-1), 1) := by decide +kernel
theorem dX3_hang_16 : decode cX3_hang 16 = .ok (.ixor, 1) := by decide +kernel
theorem dX3_hang_17 : decode cX3_hang 17 = .ok (.iand, 1) := by decide +kernel
theorem dX3_hang_18 : decode cX3_hang 18 = .ok (.iastore, 1) := by decide +kernel
theorem dX3_hang_19 : decode cX3_hang 19 = .ok (.aload_n 0, 1) := by decide +kernel
theorem dX3_hang_20 : decode cX3_hang 20 = .ok (.getfield 24, 3) := by decide +kernel
theorem dX3_hang_23 : decode cX3_hang 23 = .ok (.aload_n 0, 1) := by decide +kernel
theorem dX3_hang_24 : decode cX3_hang 24 = .ok (.getfield 21, 3) := by decide +kernel
theorem dX3_hang_27 : decode cX3_hang 27 = .ok (.iload_n 1, 1) := by decide +kernel
theorem dX3_hang_28 : decode cX3_hang 28 = .ok (.iaload, 1) := by decide +kernel
theorem dX3_hang_29 : decode cX3_hang 29 = .ok (.dup2, 1) := by decide +kernel
theorem dX3_hang_30 : decode cX3_hang 30 = .ok (.iaload, 1) := by decide +kernel
theorem dX3_hang_31 : decode cX3_hang 31 = .ok (.iconst 1, 1) := by decide +kernel
theorem dX3_hang_32 : decode cX3_hang 32 = .ok (.iload_n 1, 1) := by decide +kernel
theorem dX3_hang_33 : decode cX3_hang 33 = .ok (.ishl, 1) := by decide +kernel
theorem dX3_hang_34 : decode cX3_hang 34 = .ok (.iconst (-1), 1) := by decide +kernel
theorem dX3_hang_35 : decode cX3_hang 35 = .ok (.ixor, 1) := by decide +kernel
theorem dX3_hang_36 : decode cX3_hang 36 = .ok (.iand, 1) := by decide +kernel
theorem dX3_hang_37 : decode cX3_hang 37 = .ok (.iastore, 1) := by decide +kernel
theorem dX3_hang_38 : decode cX3_hang 38 = .ok (.aload_n 0, 1) := by decide +kernel
theorem dX3_hang_39 : decode cX3_hang 39 = .ok (.getfield 18, 3) := by decide +kernel
theorem dX3_hang_42 : decode cX3_hang 42 = .ok (.iload_n 1, 1) := by decide +kernel
theorem dX3_hang_43 : decode cX3_hang 43 = .ok (.iload_n 2, 1) := by decide +kernel
theorem dX3_hang_44 : decode cX3_hang 44 = .ok (.iload_n 3, 1) := by decide +kernel
theorem dX3_hang_45 : decode cX3_hang 45 = .ok (.invokestatic 41, 3) := by decide +kernel
theorem dX3_hang_48 : decode cX3_hang 48 = .ok (.iastore, 1) := by decide +kernel
theorem dX3_hang_49 : decode cX3_hang 49 = .ok (.aload_n 0, 1) := by decide +kernel
theorem dX3_hang_50 : decode cX3_hang 50 = .ok (.getfield 21, 3) := by decide +kernel
theorem dX3_hang_53 : decode cX3_hang 53 = .ok (.iload_n 1, 1) := by decide +kernel
theorem dX3_hang_54 : decode cX3_hang 54 = .ok (.iload_n 2, 1) := by decide +kernel
theorem dX3_hang_55 : decode cX3_hang 55 = .ok (.iload_n 3, 1) := by decide +kernel
theorem dX3_hang_56 : decode cX3_hang 56 = .ok (.invokestatic 47, 3) := by decide +kernel
theorem dX3_hang_59 : decode cX3_hang 59 = .ok (.iastore, 1) := by decide +kernel
theorem dX3_hang_60 : decode cX3_hang 60 = .ok (.aload_n 0, 1) := by decide +kernel
theorem dX3_hang_61 : decode cX3_hang 61 = .ok (.getfield 24, 3) := by decide +kernel
theorem dX3_hang_64 : decode cX3_hang 64 = .ok (.iload_n 2, 1) := by decide +kernel
theorem dX3_hang_65 : decode cX3_hang 65 = .ok (.dup2, 1) := by decide +kernel
theorem dX3_hang_66 : decode cX3_hang 66 = .ok (.iaload, 1) := by decide +kernel
theorem dX3_hang_67 : decode cX3_hang 67 = .ok (.iconst 1, 1) := by decide +kernel
theorem dX3_hang_68 : decode cX3_hang 68 = .ok (.iload_n 1, 1) := by decide +kernel
theorem dX3_hang_69 : decode cX3_hang 69 = .ok (.ishl, 1) := by decide +kernel
theorem dX3_hang_70 : decode cX3_hang 70 = .ok (.ior, 1) := by decide +kernel
theorem dX3_hang_71 : decode cX3_hang 71 = .ok (.iastore, 1) := by decide +kernel
theorem dX3_hang_72 : decode cX3_hang 72 = .ok (.aload_n 0, 1) := by decide +kernel
theorem dX3_hang_73 : decode cX3_hang 73 = .ok (.getfield 24, 3) := by decide +kernel
theorem dX3_hang_76 : decode cX3_hang 76 = .ok (.iload_n 3, 1) := by decide +kernel
theorem dX3_hang_77 : decode cX3_hang 77 = .ok (.dup2, 1) := by decide +kernel
theorem dX3_hang_78 : decode cX3_hang 78 = .ok (.iaload, 1) := by decide +kernel
theorem dX3_hang_79 : decode cX3_hang 79 = .ok (.iconst 1, 1) := by decide +kernel
theorem dX3_hang_80 : decode cX3_hang 80 = .ok (.iload_n 1, 1) := by decide +kernel
theorem dX3_hang_81 : decode cX3_hang 81 = .ok (.ishl, 1) := by decide +kernel
theorem dX3_hang_82 : decode cX3_hang 82 = .ok (.ior, 1) := by decide +kernel
theorem dX3_hang_83 : decode cX3_hang 83 = .ok (.iastore, 1) := by decide +kernel
theorem dX3_hang_84 : decode cX3_hang 84 = .ok (.return_, 1) := by decide +kernel
theorem dX3_lesserHall_0 : decode cX3_lesserHall 0 = .ok (.aload_n 0, 1) := by decide +kernel
theorem dX3_lesserHall_1 : decode cX3_lesserHall 1 = .ok (.getfield 18, 3) := by decide +kernel
theorem dX3_lesserHall_4 : decode cX3_lesserHall 4 = .ok (.iload_n 1, 1) := by decide +kernel
theorem dX3_lesserHall_5 : decode cX3_lesserHall 5 = .ok (.iaload, 1) := by decide +kernel
theorem dX3_lesserHall_6 : decode cX3_lesserHall 6 = .ok (.ireturn, 1) := by decide +kernel
theorem dX3_greaterHall_0 : decode cX3_greaterHall 0 = .ok (.aload_n 0, 1) := by decide +kernel
theorem dX3_greaterHall_1 : decode cX3_greaterHall 1 = .ok (.getfield 21, 3) := by decide +kernel
theorem dX3_greaterHall_4 : decode cX3_greaterHall 4 = .ok (.iload_n 1, 1) := by decide +kernel
theorem dX3_greaterHall_5 : decode cX3_greaterHall 5 = .ok (.iaload, 1) := by decide +kernel
theorem dX3_greaterHall_6 : decode cX3_greaterHall 6 = .ok (.ireturn, 1) := by decide +kernel
theorem dX3_otherHall_0 : decode cX3_otherHall 0 = .ok (.aload_n 0, 1) := by decide +kernel
theorem dX3_otherHall_1 : decode cX3_otherHall 1 = .ok (.getfield 18, 3) := by decide +kernel
theorem dX3_otherHall_4 : decode cX3_otherHall 4 = .ok (.iload_n 1, 1) := by decide +kernel
theorem dX3_otherHall_5 : decode cX3_otherHall 5 = .ok (.iaload, 1) := by decide +kernel
theorem dX3_otherHall_6 : decode cX3_otherHall 6 = .ok (.iload_n 2, 1) := by decide +kernel
theorem dX3_otherHall_7 : decode cX3_otherHall 7 = .ok (.if_icmp .ne 12, 3) := by decide +kernel
theorem dX3_otherHall_10 : decode cX3_otherHall 10 = .ok (.aload_n 0, 1) := by decide +kernel
theorem dX3_otherHall_11 : decode cX3_otherHall 11 = .ok (.getfield 21, 3) := by decide +kernel
theorem dX3_otherHall_14 : decode cX3_otherHall 14 = .ok (.iload_n 1, 1) := by decide +kernel
theorem dX3_otherHall_15 : decode cX3_otherHall 15 = .ok (.iaload, 1) := by decide +kernel
theorem dX3_otherHall_16 : decode cX3_otherHall 16 = .ok (.goto 9, 3) := by decide +kernel
theorem dX3_otherHall_19 : decode cX3_otherHall 19 = .ok (.aload_n 0, 1) := by decide +kernel
theorem dX3_otherHall_20 : decode cX3_otherHall 20 = .ok (.getfield 18, 3) := by decide +kernel
theorem dX3_otherHall_23 : decode cX3_otherHall 23 = .ok (.iload_n 1, 1) := by decide +kernel
theorem dX3_otherHall_24 : decode cX3_otherHall 24 = .ok (.iaload, 1) := by decide +kernel
theorem dX3_otherHall_25 : decode cX3_otherHall 25 = .ok (.ireturn, 1) := by decide +kernel
theorem dX3_doorsOf_0 : decode cX3_doorsOf 0 = .ok (.aload_n 0, 1) := by decide +kernel
theorem dX3_doorsOf_1 : decode cX3_doorsOf 1 = .ok (.getfield 24, 3) := by decide +kernel
theorem dX3_doorsOf_4 : decode cX3_doorsOf 4 = .ok (.iload_n 1, 1) := by decide +kernel
theorem dX3_doorsOf_5 : decode cX3_doorsOf 5 = .ok (.iaload, 1) := by decide +kernel
theorem dX3_doorsOf_6 : decode cX3_doorsOf 6 = .ok (.ireturn, 1) := by decide +kernel
theorem dX3_cordOf_0 : decode cX3_cordOf 0 = .ok (.iload_n 2, 1) := by decide +kernel
theorem dX3_cordOf_1 : decode cX3_cordOf 1 = .ok (.ifCond .eq 12, 3) := by decide +kernel
theorem dX3_cordOf_4 : decode cX3_cordOf 4 = .ok (.aload_n 0, 1) := by decide +kernel
theorem dX3_cordOf_5 : decode cX3_cordOf 5 = .ok (.getfield 15, 3) := by decide +kernel
theorem dX3_cordOf_8 : decode cX3_cordOf 8 = .ok (.iload_n 1, 1) := by decide +kernel
theorem dX3_cordOf_9 : decode cX3_cordOf 9 = .ok (.iaload, 1) := by decide +kernel
theorem dX3_cordOf_10 : decode cX3_cordOf 10 = .ok (.goto 9, 3) := by decide +kernel
theorem dX3_cordOf_13 : decode cX3_cordOf 13 = .ok (.aload_n 0, 1) := by decide +kernel
theorem dX3_cordOf_14 : decode cX3_cordOf 14 = .ok (.getfield 9, 3) := by decide +kernel
theorem dX3_cordOf_17 : decode cX3_cordOf 17 = .ok (.iload_n 1, 1) := by decide +kernel
theorem dX3_cordOf_18 : decode cX3_cordOf 18 = .ok (.iaload, 1) := by decide +kernel
theorem dX3_cordOf_19 : decode cX3_cordOf 19 = .ok (.ireturn, 1) := by decide +kernel
theorem dX3_layCord_0 : decode cX3_layCord 0 = .ok (.iload_n 2, 1) := by decide +kernel
theorem dX3_layCord_1 : decode cX3_layCord 1 = .ok (.ifCond .eq 13, 3) := by decide +kernel
theorem dX3_layCord_4 : decode cX3_layCord 4 = .ok (.aload_n 0, 1) := by decide +kernel
theorem dX3_layCord_5 : decode cX3_layCord 5 = .ok (.getfield 15, 3) := by decide +kernel
theorem dX3_layCord_8 : decode cX3_layCord 8 = .ok (.iload_n 1, 1) := by decide +kernel
theorem dX3_layCord_9 : decode cX3_layCord 9 = .ok (.iload_n 3, 1) := by decide +kernel
theorem dX3_layCord_10 : decode cX3_layCord 10 = .ok (.iastore, 1) := by decide +kernel
theorem dX3_layCord_11 : decode cX3_layCord 11 = .ok (.goto 10, 3) := by decide +kernel
theorem dX3_layCord_14 : decode cX3_layCord 14 = .ok (.aload_n 0, 1) := by decide +kernel
theorem dX3_layCord_15 : decode cX3_layCord 15 = .ok (.getfield 9, 3) := by decide +kernel
theorem dX3_layCord_18 : decode cX3_layCord 18 = .ok (.iload_n 1, 1) := by decide +kernel
theorem dX3_layCord_19 : decode cX3_layCord 19 = .ok (.iload_n 3, 1) := by decide +kernel
theorem dX3_layCord_20 : decode cX3_layCord 20 = .ok (.iastore, 1) := by decide +kernel
theorem dX3_layCord_21 : decode cX3_layCord 21 = .ok (.return_, 1) := by decide +kernel
theorem dX3_targetsOf_0 : decode cX3_targetsOf 0 = .ok (.iconst 1, 1) := by decide +kernel
theorem dX3_targetsOf_1 : decode cX3_targetsOf 1 = .ok (.aload_n 0, 1) := by decide +kernel
theorem dX3_targetsOf_2 : decode cX3_targetsOf 2 = .ok (.getfield 9, 3) := by decide +kernel
theorem dX3_targetsOf_5 : decode cX3_targetsOf 5 = .ok (.iload_n 1, 1) := by decide +kernel
theorem dX3_targetsOf_6 : decode cX3_targetsOf 6 = .ok (.iaload, 1) := by decide +kernel
theorem dX3_targetsOf_7 : decode cX3_targetsOf 7 = .ok (.ishl, 1) := by decide +kernel
theorem dX3_targetsOf_8 : decode cX3_targetsOf 8 = .ok (.iconst 1, 1) := by decide +kernel
theorem dX3_targetsOf_9 : decode cX3_targetsOf 9 = .ok (.aload_n 0, 1) := by decide +kernel
theorem dX3_targetsOf_10 : decode cX3_targetsOf 10 = .ok (.getfield 15, 3) := by decide +kernel
theorem dX3_targetsOf_13 : decode cX3_targetsOf 13 = .ok (.iload_n 1, 1) := by decide +kernel
theorem dX3_targetsOf_14 : decode cX3_targetsOf 14 = .ok (.iaload, 1) := by decide +kernel
theorem dX3_targetsOf_15 : decode cX3_targetsOf 15 = .ok (.ishl, 1) := by decide +kernel
theorem dX3_targetsOf_16 : decode cX3_targetsOf 16 = .ok (.ior, 1) := by decide +kernel
theorem dX3_targetsOf_17 : decode cX3_targetsOf 17 = .ok (.sipush 1023, 3) := by decide +kernel
theorem dX3_targetsOf_20 : decode cX3_targetsOf 20 = .ok (.iand, 1) := by decide +kernel
theorem dX3_targetsOf_21 : decode cX3_targetsOf 21 = .ok (.ireturn, 1) := by decide +kernel
theorem dX3_heldBy_0 : decode cX3_heldBy 0 = .ok (.iconst 0, 1) := by decide +kernel
theorem dX3_heldBy_1 : decode cX3_heldBy 1 = .ok (.istore_n 2, 1) := by decide +kernel
theorem dX3_heldBy_2 : decode cX3_heldBy 2 = .ok (.iconst 0, 1) := by decide +kernel
theorem dX3_heldBy_3 : decode cX3_heldBy 3 = .ok (.istore_n 3, 1) := by decide +kernel
theorem dX3_heldBy_4 : decode cX3_heldBy 4 = .ok (.iload_n 3, 1) := by decide +kernel
theorem dX3_heldBy_5 : decode cX3_heldBy 5 = .ok (.bipush 10, 2) := by decide +kernel
theorem dX3_heldBy_7 : decode cX3_heldBy 7 = .ok (.if_icmp .ge 25, 3) := by decide +kernel
theorem dX3_heldBy_10 : decode cX3_heldBy 10 = .ok (.iload_n 1, 1) := by decide +kernel
theorem dX3_heldBy_11 : decode cX3_heldBy 11 = .ok (.iload_n 3, 1) := by decide +kernel
theorem dX3_heldBy_12 : decode cX3_heldBy 12 = .ok (.invokestatic 50, 3) := by decide +kernel
theorem dX3_heldBy_15 : decode cX3_heldBy 15 = .ok (.ifCond .eq 11, 3) := by decide +kernel
theorem dX3_heldBy_18 : decode cX3_heldBy 18 = .ok (.iload_n 2, 1) := by decide +kernel
theorem dX3_heldBy_19 : decode cX3_heldBy 19 = .ok (.aload_n 0, 1) := by decide +kernel
theorem dX3_heldBy_20 : decode cX3_heldBy 20 = .ok (.iload_n 3, 1) := by decide +kernel
theorem dX3_heldBy_21 : decode cX3_heldBy 21 = .ok (.invokevirtual 54, 3) := by decide +kernel
theorem dX3_heldBy_24 : decode cX3_heldBy 24 = .ok (.ior, 1) := by decide +kernel
theorem dX3_heldBy_25 : decode cX3_heldBy 25 = .ok (.istore_n 2, 1) := by decide +kernel
theorem dX3_heldBy_26 : decode cX3_heldBy 26 = .ok (.iinc 3 1, 3) := by decide +kernel
theorem dX3_heldBy_29 : decode cX3_heldBy 29 = .ok (.goto (-25), 3) := by decide +kernel
theorem dX3_heldBy_32 : decode cX3_heldBy 32 = .ok (.iload_n 2, 1) := by decide +kernel
theorem dX3_heldBy_33 : decode cX3_heldBy 33 = .ok (.ireturn, 1) := by decide +kernel
theorem dX3_cordsOf_0 : decode cX3_cordsOf 0 = .ok (.iconst 0, 1) := by decide +kernel
theorem dX3_cordsOf_1 : decode cX3_cordsOf 1 = .ok (.istore_n 2, 1) := by decide +kernel
theorem dX3_cordsOf_2 : decode cX3_cordsOf 2 = .ok (.iconst 0, 1) := by decide +kernel
theorem dX3_cordsOf_3 : decode cX3_cordsOf 3 = .ok (.istore_n 3, 1) := by decide +kernel
theorem dX3_cordsOf_4 : decode cX3_cordsOf 4 = .ok (.iload_n 3, 1) := by decide +kernel
theorem dX3_cordsOf_5 : decode cX3_cordsOf 5 = .ok (.bipush 10, 2) := by decide +kernel
theorem dX3_cordsOf_7 : decode cX3_cordsOf 7 = .ok (.if_icmp .ge 28, 3) := by decide +kernel
theorem dX3_cordsOf_10 : decode cX3_cordsOf 10 = .ok (.iload_n 1, 1) := by decide +kernel
theorem dX3_cordsOf_11 : decode cX3_cordsOf 11 = .ok (.iload_n 3, 1) := by decide +kernel
theorem dX3_cordsOf_12 : decode cX3_cordsOf 12 = .ok (.invokestatic 50, 3) := by decide +kernel
theorem dX3_cordsOf_15 : decode cX3_cordsOf 15 = .ok (.ifCond .eq 14, 3) := by decide +kernel
theorem dX3_cordsOf_18 : decode cX3_cordsOf 18 = .ok (.iload_n 2, 1) := by decide +kernel
theorem dX3_cordsOf_19 : decode cX3_cordsOf 19 = .ok (.aload_n 0, 1) := by decide +kernel
theorem dX3_cordsOf_20 : decode cX3_cordsOf 20 = .ok (.iload_n 3, 1) := by decide +kernel
theorem dX3_cordsOf_21 : decode cX3_cordsOf 21 = .ok (.invokevirtual 54, 3) := by decide +kernel
theorem dX3_cordsOf_24 : decode cX3_cordsOf 24 = .ok (.invokestatic 58, 3) := by decide +kernel
theorem dX3_cordsOf_27 : decode cX3_cordsOf 27 = .ok (.iadd, 1) := by decide +kernel
theorem dX3_cordsOf_28 : decode cX3_cordsOf 28 = .ok (.istore_n 2, 1) := by decide +kernel
theorem dX3_cordsOf_29 : decode cX3_cordsOf 29 = .ok (.iinc 3 1, 3) := by decide +kernel
theorem dX3_cordsOf_32 : decode cX3_cordsOf 32 = .ok (.goto (-28), 3) := by decide +kernel
theorem dX3_cordsOf_35 : decode cX3_cordsOf 35 = .ok (.iload_n 2, 1) := by decide +kernel
theorem dX3_cordsOf_36 : decode cX3_cordsOf 36 = .ok (.ireturn, 1) := by decide +kernel
theorem dX3_cordsTo_0 : decode cX3_cordsTo 0 = .ok (.iconst 0, 1) := by decide +kernel
theorem dX3_cordsTo_1 : decode cX3_cordsTo 1 = .ok (.istore_n 3, 1) := by decide +kernel
theorem dX3_cordsTo_2 : decode cX3_cordsTo 2 = .ok (.iconst 0, 1) := by decide +kernel
theorem dX3_cordsTo_3 : decode cX3_cordsTo 3 = .ok (.istore 4, 2) := by decide +kernel
theorem dX3_cordsTo_5 : decode cX3_cordsTo 5 = .ok (.iload 4, 2) := by decide +kernel
theorem dX3_cordsTo_7 : decode cX3_cordsTo 7 = .ok (.bipush 10, 2) := by decide +kernel
theorem dX3_cordsTo_9 : decode cX3_cordsTo 9 = .ok (.if_icmp .ge 34, 3) := by decide +kernel
theorem dX3_cordsTo_12 : decode cX3_cordsTo 12 = .ok (.iload_n 2, 1) := by decide +kernel
theorem dX3_cordsTo_13 : decode cX3_cordsTo 13 = .ok (.iload 4, 2) := by decide +kernel
theorem dX3_cordsTo_15 : decode cX3_cordsTo 15 = .ok (.invokestatic 50, 3) := by decide +kernel
theorem dX3_cordsTo_18 : decode cX3_cordsTo 18 = .ok (.ifCond .eq 19, 3) := by decide +kernel
theorem dX3_cordsTo_21 : decode cX3_cordsTo 21 = .ok (.aload_n 0, 1) := by decide +kernel
theorem dX3_cordsTo_22 : decode cX3_cordsTo 22 = .ok (.iload 4, 2) := by decide +kernel
theorem dX3_cordsTo_24 : decode cX3_cordsTo 24 = .ok (.invokevirtual 54, 3) := by decide +kernel
theorem dX3_cordsTo_27 : decode cX3_cordsTo 27 = .ok (.iload_n 1, 1) := by decide +kernel
theorem dX3_cordsTo_28 : decode cX3_cordsTo 28 = .ok (.invokestatic 50, 3) := by decide +kernel
theorem dX3_cordsTo_31 : decode cX3_cordsTo 31 = .ok (.ifCond .eq 6, 3) := by decide +kernel
theorem dX3_cordsTo_34 : decode cX3_cordsTo 34 = .ok (.iinc 3 1, 3) := by decide +kernel
theorem dX3_cordsTo_37 : decode cX3_cordsTo 37 = .ok (.iinc 4 1, 3) := by decide +kernel
theorem dX3_cordsTo_40 : decode cX3_cordsTo 40 = .ok (.goto (-35), 3) := by decide +kernel
theorem dX3_cordsTo_43 : decode cX3_cordsTo 43 = .ok (.iload_n 3, 1) := by decide +kernel
theorem dX3_cordsTo_44 : decode cX3_cordsTo 44 = .ok (.ireturn, 1) := by decide +kernel
theorem dX3_pairsOfDoors_0 : decode cX3_pairsOfDoors 0 = .ok (.iconst 0, 1) := by decide +kernel
theorem dX3_pairsOfDoors_1 : decode cX3_pairsOfDoors 1 = .ok (.istore_n 1, 1) := by decide +kernel
theorem dX3_pairsOfDoors_2 : decode cX3_pairsOfDoors 2 = .ok (.iconst 0, 1) := by decide +kernel
theorem dX3_pairsOfDoors_3 : decode cX3_pairsOfDoors 3 = .ok (.istore_n 2, 1) := by decide +kernel
theorem dX3_pairsOfDoors_4 : decode cX3_pairsOfDoors 4 = .ok (.iload_n 2, 1) := by decide +kernel
theorem dX3_pairsOfDoors_5 : decode cX3_pairsOfDoors 5 = .ok (.bipush 10, 2) := by decide +kernel
theorem dX3_pairsOfDoors_7 : decode cX3_pairsOfDoors 7 = .ok (.if_icmp .ge 52, 3) := by decide +kernel
theorem dX3_pairsOfDoors_10 : decode cX3_pairsOfDoors 10 = .ok (.iload_n 2, 1) := by decide +kernel
theorem dX3_pairsOfDoors_11 : decode cX3_pairsOfDoors 11 = .ok (.iconst 1, 1) := by decide +kernel
theorem dX3_pairsOfDoors_12 : decode cX3_pairsOfDoors 12 = .ok (.iadd, 1) := by decide +kernel
theorem dX3_pairsOfDoors_13 : decode cX3_pairsOfDoors 13 = .ok (.istore_n 3, 1) := by decide +kernel
theorem dX3_pairsOfDoors_14 : decode cX3_pairsOfDoors 14 = .ok (.iload_n 3, 1) := by decide +kernel
theorem dX3_pairsOfDoors_15 : decode cX3_pairsOfDoors 15 = .ok (.bipush 10, 2) := by decide +kernel
theorem dX3_pairsOfDoors_17 : decode cX3_pairsOfDoors 17 = .ok (.if_icmp .ge 36, 3) := by decide +kernel
theorem dX3_pairsOfDoors_20 : decode cX3_pairsOfDoors 20 = .ok (.aload_n 0, 1) := by decide +kernel
theorem dX3_pairsOfDoors_21 : decode cX3_pairsOfDoors 21 = .ok (.iload_n 2, 1) := by decide +kernel
theorem dX3_pairsOfDoors_22 : decode cX3_pairsOfDoors 22 = .ok (.invokevirtual 54, 3) := by decide +kernel
theorem dX3_pairsOfDoors_25 : decode cX3_pairsOfDoors 25 = .ok (.iload_n 3, 1) := by decide +kernel
theorem dX3_pairsOfDoors_26 : decode cX3_pairsOfDoors 26 = .ok (.invokestatic 50, 3) := by decide +kernel
theorem dX3_pairsOfDoors_29 : decode cX3_pairsOfDoors 29 = .ok (.ifCond .eq 18, 3) := by decide +kernel
theorem dX3_pairsOfDoors_32 : decode cX3_pairsOfDoors 32 = .ok (.aload_n 0, 1) := by decide +kernel
theorem dX3_pairsOfDoors_33 : decode cX3_pairsOfDoors 33 = .ok (.iload_n 3, 1) := by decide +kernel
theorem dX3_pairsOfDoors_34 : decode cX3_pairsOfDoors 34 = .ok (.invokevirtual 54, 3) := by decide +kernel
theorem dX3_pairsOfDoors_37 : decode cX3_pairsOfDoors 37 = .ok (.iload_n 2, 1) := by decide +kernel
theorem dX3_pairsOfDoors_38 : decode cX3_pairsOfDoors 38 = .ok (.invokestatic 50, 3) := by decide +kernel
theorem dX3_pairsOfDoors_41 : decode cX3_pairsOfDoors 41 = .ok (.ifCond .eq 6, 3) := by decide +kernel
theorem dX3_pairsOfDoors_44 : decode cX3_pairsOfDoors 44 = .ok (.iinc 1 1, 3) := by decide +kernel
theorem dX3_pairsOfDoors_47 : decode cX3_pairsOfDoors 47 = .ok (.iinc 3 1, 3) := by decide +kernel
theorem dX3_pairsOfDoors_50 : decode cX3_pairsOfDoors 50 = .ok (.goto (-36), 3) := by decide +kernel
theorem dX3_pairsOfDoors_53 : decode cX3_pairsOfDoors 53 = .ok (.iinc 2 1, 3) := by decide +kernel
theorem dX3_pairsOfDoors_56 : decode cX3_pairsOfDoors 56 = .ok (.goto (-52), 3) := by decide +kernel
theorem dX3_pairsOfDoors_59 : decode cX3_pairsOfDoors 59 = .ok (.iload_n 1, 1) := by decide +kernel
theorem dX3_pairsOfDoors_60 : decode cX3_pairsOfDoors 60 = .ok (.ireturn, 1) := by decide +kernel
theorem dX3_canBeOpen_0 : decode cX3_canBeOpen 0 = .ok (.aload_n 0, 1) := by decide +kernel
theorem dX3_canBeOpen_1 : decode cX3_canBeOpen 1 = .ok (.iload_n 1, 1) := by decide +kernel
theorem dX3_canBeOpen_2 : decode cX3_canBeOpen 2 = .ok (.invokevirtual 63, 3) := by decide +kernel
theorem dX3_canBeOpen_5 : decode cX3_canBeOpen 5 = .ok (.iload_n 1, 1) := by decide +kernel
theorem dX3_canBeOpen_6 : decode cX3_canBeOpen 6 = .ok (.iand, 1) := by decide +kernel
theorem dX3_canBeOpen_7 : decode cX3_canBeOpen 7 = .ok (.ifCond .eq 5, 3) := by decide +kernel
theorem dX3_canBeOpen_10 : decode cX3_canBeOpen 10 = .ok (.iconst 0, 1) := by decide +kernel
theorem dX3_canBeOpen_11 : decode cX3_canBeOpen 11 = .ok (.ireturn, 1) := by decide +kernel
theorem dX3_canBeOpen_12 : decode cX3_canBeOpen 12 = .ok (.iconst 0, 1) := by decide +kernel
theorem dX3_canBeOpen_13 : decode cX3_canBeOpen 13 = .ok (.istore_n 2, 1) := by decide +kernel
theorem dX3_canBeOpen_14 : decode cX3_canBeOpen 14 = .ok (.iload_n 2, 1) := by decide +kernel
theorem dX3_canBeOpen_15 : decode cX3_canBeOpen 15 = .ok (.bipush 6, 2) := by decide +kernel
theorem dX3_canBeOpen_17 : decode cX3_canBeOpen 17 = .ok (.if_icmp .ge 20, 3) := by decide +kernel
theorem dX3_canBeOpen_20 : decode cX3_canBeOpen 20 = .ok (.aload_n 0, 1) := by decide +kernel
theorem dX3_canBeOpen_21 : decode cX3_canBeOpen 21 = .ok (.iload_n 2, 1) := by decide +kernel
theorem dX3_canBeOpen_22 : decode cX3_canBeOpen 22 = .ok (.iload_n 1, 1) := by decide +kernel
theorem dX3_canBeOpen_23 : decode cX3_canBeOpen 23 = .ok (.invokevirtual 66, 3) := by decide +kernel
theorem dX3_canBeOpen_26 : decode cX3_canBeOpen 26 = .ok (.ifCond .eq 5, 3) := by decide +kernel
theorem dX3_canBeOpen_29 : decode cX3_canBeOpen 29 = .ok (.iconst 0, 1) := by decide +kernel
theorem dX3_canBeOpen_30 : decode cX3_canBeOpen 30 = .ok (.ireturn, 1) := by decide +kernel
theorem dX3_canBeOpen_31 : decode cX3_canBeOpen 31 = .ok (.iinc 2 1, 3) := by decide +kernel
theorem dX3_canBeOpen_34 : decode cX3_canBeOpen 34 = .ok (.goto (-20), 3) := by decide +kernel
theorem dX3_canBeOpen_37 : decode cX3_canBeOpen 37 = .ok (.iconst 1, 1) := by decide +kernel
theorem dX3_canBeOpen_38 : decode cX3_canBeOpen 38 = .ok (.ireturn, 1) := by decide +kernel
theorem dX3_hasTooMany_0 : decode cX3_hasTooMany 0 = .ok (.aload_n 0, 1) := by decide +kernel
theorem dX3_hasTooMany_1 : decode cX3_hasTooMany 1 = .ok (.getfield 24, 3) := by decide +kernel
theorem dX3_hasTooMany_4 : decode cX3_hasTooMany 4 = .ok (.iload_n 1, 1) := by decide +kernel
theorem dX3_hasTooMany_5 : decode cX3_hasTooMany 5 = .ok (.iaload, 1) := by decide +kernel
theorem dX3_hasTooMany_6 : decode cX3_hasTooMany 6 = .ok (.iload_n 2, 1) := by decide +kernel
theorem dX3_hasTooMany_7 : decode cX3_hasTooMany 7 = .ok (.iand, 1) := by decide +kernel
theorem dX3_hasTooMany_8 : decode cX3_hasTooMany 8 = .ok (.invokestatic 58, 3) := by decide +kernel
theorem dX3_hasTooMany_11 : decode cX3_hasTooMany 11 = .ok (.aload_n 0, 1) := by decide +kernel
theorem dX3_hasTooMany_12 : decode cX3_hasTooMany 12 = .ok (.getfield 27, 3) := by decide +kernel
theorem dX3_hasTooMany_15 : decode cX3_hasTooMany 15 = .ok (.if_icmp .le 7, 3) := by decide +kernel
theorem dX3_hasTooMany_18 : decode cX3_hasTooMany 18 = .ok (.iconst 1, 1) := by decide +kernel
theorem dX3_hasTooMany_19 : decode cX3_hasTooMany 19 = .ok (.goto 4, 3) := by decide +kernel
theorem dX3_hasTooMany_22 : decode cX3_hasTooMany 22 = .ok (.iconst 0, 1) := by decide +kernel
theorem dX3_hasTooMany_23 : decode cX3_hasTooMany 23 = .ok (.ireturn, 1) := by decide +kernel
theorem dX3_afterOpening_0 : decode cX3_afterOpening 0 = .ok (.aload_n 0, 1) := by decide +kernel
theorem dX3_afterOpening_1 : decode cX3_afterOpening 1 = .ok (.aload_n 0, 1) := by decide +kernel
theorem dX3_afterOpening_2 : decode cX3_afterOpening 2 = .ok (.iload_n 1, 1) := by decide +kernel
theorem dX3_afterOpening_3 : decode cX3_afterOpening 3 = .ok (.iload_n 2, 1) := by decide +kernel
theorem dX3_afterOpening_4 : decode cX3_afterOpening 4 = .ok (.invokevirtual 69, 3) := by decide +kernel
theorem dX3_afterOpening_7 : decode cX3_afterOpening 7 = .ok (.iload_n 2, 1) := by decide +kernel
theorem dX3_afterOpening_8 : decode cX3_afterOpening 8 = .ok (.invokevirtual 72, 3) := by decide +kernel
theorem dX3_afterOpening_11 : decode cX3_afterOpening 11 = .ok (.ireturn, 1) := by decide +kernel
theorem dX3_afterCords_0 : decode cX3_afterCords 0 = .ok (.iload_n 1, 1) := by decide +kernel
theorem dX3_afterCords_1 : decode cX3_afterCords 1 = .ok (.iconst 1, 1) := by decide +kernel
theorem dX3_afterCords_2 : decode cX3_afterCords 2 = .ok (.iload_n 2, 1) := by decide +kernel
theorem dX3_afterCords_3 : decode cX3_afterCords 3 = .ok (.ishl, 1) := by decide +kernel
theorem dX3_afterCords_4 : decode cX3_afterCords 4 = .ok (.ior, 1) := by decide +kernel
theorem dX3_afterCords_5 : decode cX3_afterCords 5 = .ok (.aload_n 0, 1) := by decide +kernel
theorem dX3_afterCords_6 : decode cX3_afterCords 6 = .ok (.iload_n 2, 1) := by decide +kernel
theorem dX3_afterCords_7 : decode cX3_afterCords 7 = .ok (.invokevirtual 54, 3) := by decide +kernel
theorem dX3_afterCords_10 : decode cX3_afterCords 10 = .ok (.iconst (-1), 1) := by decide +kernel
theorem dX3_afterCords_11 : decode cX3_afterCords 11 = .ok (.ixor, 1) := by decide +kernel
theorem dX3_afterCords_12 : decode cX3_afterCords 12 = .ok (.iand, 1) := by decide +kernel
theorem dX3_afterCords_13 : decode cX3_afterCords 13 = .ok (.ireturn, 1) := by decide +kernel
theorem dX3_afterDrafts_0 : decode cX3_afterDrafts 0 = .ok (.iload_n 1, 1) := by decide +kernel
theorem dX3_afterDrafts_1 : decode cX3_afterDrafts 1 = .ok (.istore_n 3, 1) := by decide +kernel
theorem dX3_afterDrafts_2 : decode cX3_afterDrafts 2 = .ok (.iconst 0, 1) := by decide +kernel
theorem dX3_afterDrafts_3 : decode cX3_afterDrafts 3 = .ok (.istore 4, 2) := by decide +kernel
theorem dX3_afterDrafts_5 : decode cX3_afterDrafts 5 = .ok (.iload 4, 2) := by decide +kernel
theorem dX3_afterDrafts_7 : decode cX3_afterDrafts 7 = .ok (.bipush 6, 2) := by decide +kernel
theorem dX3_afterDrafts_9 : decode cX3_afterDrafts 9 = .ok (.if_icmp .ge 65, 3) := by decide +kernel
theorem dX3_afterDrafts_12 : decode cX3_afterDrafts 12 = .ok (.iconst 0, 1) := by decide +kernel
theorem dX3_afterDrafts_13 : decode cX3_afterDrafts 13 = .ok (.istore 5, 2) := by decide +kernel
theorem dX3_afterDrafts_15 : decode cX3_afterDrafts 15 = .ok (.iload 5, 2) := by decide +kernel
theorem dX3_afterDrafts_17 : decode cX3_afterDrafts 17 = .ok (.bipush 10, 2) := by decide +kernel
theorem dX3_afterDrafts_19 : decode cX3_afterDrafts 19 = .ok (.if_icmp .ge 49, 3) := by decide +kernel
theorem dX3_afterDrafts_22 : decode cX3_afterDrafts 22 = .ok (.aload_n 0, 1) := by decide +kernel
theorem dX3_afterDrafts_23 : decode cX3_afterDrafts 23 = .ok (.iload 4, 2) := by decide +kernel
theorem dX3_afterDrafts_25 : decode cX3_afterDrafts 25 = .ok (.iload_n 3, 1) := by decide +kernel
theorem dX3_afterDrafts_26 : decode cX3_afterDrafts 26 = .ok (.invokevirtual 66, 3) := by decide +kernel
theorem dX3_afterDrafts_29 : decode cX3_afterDrafts 29 = .ok (.ifCond .eq 39, 3) := by decide +kernel
theorem dX3_afterDrafts_32 : decode cX3_afterDrafts 32 = .ok (.iload_n 3, 1) := by decide +kernel
theorem dX3_afterDrafts_33 : decode cX3_afterDrafts 33 = .ok (.aload_n 0, 1) := by decide +kernel
theorem dX3_afterDrafts_34 : decode cX3_afterDrafts 34 = .ok (.getfield 24, 3) := by decide +kernel
theorem dX3_afterDrafts_37 : decode cX3_afterDrafts 37 = .ok (.iload 4, 2) := by decide +kernel
theorem dX3_afterDrafts_39 : decode cX3_afterDrafts 39 = .ok (.iaload, 1) := by decide +kernel
theorem dX3_afterDrafts_40 : decode cX3_afterDrafts 40 = .ok (.iand, 1) := by decide +kernel
theorem dX3_afterDrafts_41 : decode cX3_afterDrafts 41 = .ok (.iload_n 2, 1) := by decide +kernel
theorem dX3_afterDrafts_42 : decode cX3_afterDrafts 42 = .ok (.invokestatic 75, 3) := by decide +kernel
theorem dX3_afterDrafts_45 : decode cX3_afterDrafts 45 = .ok (.istore 6, 2) := by decide +kernel
theorem dX3_afterDrafts_47 : decode cX3_afterDrafts 47 = .ok (.iload 6, 2) := by decide +kernel
theorem dX3_afterDrafts_49 : decode cX3_afterDrafts 49 = .ok (.iload 6, 2) := by decide +kernel
theorem dX3_afterDrafts_51 : decode cX3_afterDrafts 51 = .ok (.ineg, 1) := by decide +kernel
theorem dX3_afterDrafts_52 : decode cX3_afterDrafts 52 = .ok (.iand, 1) := by decide +kernel
theorem dX3_afterDrafts_53 : decode cX3_afterDrafts 53 = .ok (.istore 7, 2) := by decide +kernel
theorem dX3_afterDrafts_55 : decode cX3_afterDrafts 55 = .ok (.iload_n 3, 1) := by decide +kernel
theorem dX3_afterDrafts_56 : decode cX3_afterDrafts 56 = .ok (.iload 7, 2) := by decide +kernel
theorem dX3_afterDrafts_58 : decode cX3_afterDrafts 58 = .ok (.iconst (-1), 1) := by decide +kernel
theorem dX3_afterDrafts_59 : decode cX3_afterDrafts 59 = .ok (.ixor, 1) := by decide +kernel
theorem dX3_afterDrafts_60 : decode cX3_afterDrafts 60 = .ok (.iand, 1) := by decide +kernel
theorem dX3_afterDrafts_61 : decode cX3_afterDrafts 61 = .ok (.istore_n 3, 1) := by decide +kernel
theorem dX3_afterDrafts_62 : decode cX3_afterDrafts 62 = .ok (.iinc 5 1, 3) := by decide +kernel
theorem dX3_afterDrafts_65 : decode cX3_afterDrafts 65 = .ok (.goto (-50), 3) := by decide +kernel
theorem dX3_afterDrafts_68 : decode cX3_afterDrafts 68 = .ok (.iinc 4 1, 3) := by decide +kernel
theorem dX3_afterDrafts_71 : decode cX3_afterDrafts 71 = .ok (.goto (-66), 3) := by decide +kernel
theorem dX3_afterDrafts_74 : decode cX3_afterDrafts 74 = .ok (.iload_n 3, 1) := by decide +kernel
theorem dX3_afterDrafts_75 : decode cX3_afterDrafts 75 = .ok (.ireturn, 1) := by decide +kernel
theorem dX3_hallsFrom_0 : decode cX3_hallsFrom 0 = .ok (.iconst 1, 1) := by decide +kernel
theorem dX3_hallsFrom_1 : decode cX3_hallsFrom 1 = .ok (.iload_n 1, 1) := by decide +kernel
theorem dX3_hallsFrom_2 : decode cX3_hallsFrom 2 = .ok (.ishl, 1) := by decide +kernel
theorem dX3_hallsFrom_3 : decode cX3_hallsFrom 3 = .ok (.istore_n 3, 1) := by decide +kernel
theorem dX3_hallsFrom_4 : decode cX3_hallsFrom 4 = .ok (.iconst 0, 1) := by decide +kernel
theorem dX3_hallsFrom_5 : decode cX3_hallsFrom 5 = .ok (.istore 4, 2) := by decide +kernel
theorem dX3_hallsFrom_7 : decode cX3_hallsFrom 7 = .ok (.iload 4, 2) := by decide +kernel
theorem dX3_hallsFrom_9 : decode cX3_hallsFrom 9 = .ok (.bipush 6, 2) := by decide +kernel
theorem dX3_hallsFrom_11 : decode cX3_hallsFrom 11 = .ok (.if_icmp .ge 67, 3) := by decide +kernel
theorem dX3_hallsFrom_14 : decode cX3_hallsFrom 14 = .ok (.iconst 0, 1) := by decide +kernel
theorem dX3_hallsFrom_15 : decode cX3_hallsFrom 15 = .ok (.istore 5, 2) := by decide +kernel
theorem dX3_hallsFrom_17 : decode cX3_hallsFrom 17 = .ok (.iload 5, 2) := by decide +kernel
theorem dX3_hallsFrom_19 : decode cX3_hallsFrom 19 = .ok (.bipush 10, 2) := by decide +kernel
theorem dX3_hallsFrom_21 : decode cX3_hallsFrom 21 = .ok (.if_icmp .ge 51, 3) := by decide +kernel
theorem dX3_hallsFrom_24 : decode cX3_hallsFrom 24 = .ok (.iconst 1, 1) := by decide +kernel
theorem dX3_hallsFrom_25 : decode cX3_hallsFrom 25 = .ok (.aload_n 0, 1) := by decide +kernel
theorem dX3_hallsFrom_26 : decode cX3_hallsFrom 26 = .ok (.getfield 18, 3) := by decide +kernel
theorem dX3_hallsFrom_29 : decode cX3_hallsFrom 29 = .ok (.iload 5, 2) := by decide +kernel
theorem dX3_hallsFrom_31 : decode cX3_hallsFrom 31 = .ok (.iaload, 1) := by decide +kernel
theorem dX3_hallsFrom_32 : decode cX3_hallsFrom 32 = .ok (.ishl, 1) := by decide +kernel
theorem dX3_hallsFrom_33 : decode cX3_hallsFrom 33 = .ok (.iconst 1, 1) := by decide +kernel
theorem dX3_hallsFrom_34 : decode cX3_hallsFrom 34 = .ok (.aload_n 0, 1) := by decide +kernel
theorem dX3_hallsFrom_35 : decode cX3_hallsFrom 35 = .ok (.getfield 21, 3) := by decide +kernel
theorem dX3_hallsFrom_38 : decode cX3_hallsFrom 38 = .ok (.iload 5, 2) := by decide +kernel
theorem dX3_hallsFrom_40 : decode cX3_hallsFrom 40 = .ok (.iaload, 1) := by decide +kernel
theorem dX3_hallsFrom_41 : decode cX3_hallsFrom 41 = .ok (.ishl, 1) := by decide +kernel
theorem dX3_hallsFrom_42 : decode cX3_hallsFrom 42 = .ok (.ior, 1) := by decide +kernel
theorem dX3_hallsFrom_43 : decode cX3_hallsFrom 43 = .ok (.istore 6, 2) := by decide +kernel
theorem dX3_hallsFrom_45 : decode cX3_hallsFrom 45 = .ok (.iload_n 2, 1) := by decide +kernel
theorem dX3_hallsFrom_46 : decode cX3_hallsFrom 46 = .ok (.iload 5, 2) := by decide +kernel
theorem dX3_hallsFrom_48 : decode cX3_hallsFrom 48 = .ok (.invokestatic 50, 3) := by decide +kernel
theorem dX3_hallsFrom_51 : decode cX3_hallsFrom 51 = .ok (.ifCond .eq 15, 3) := by decide +kernel
theorem dX3_hallsFrom_54 : decode cX3_hallsFrom 54 = .ok (.iload_n 3, 1) := by decide +kernel
theorem dX3_hallsFrom_55 : decode cX3_hallsFrom 55 = .ok (.iload 6, 2) := by decide +kernel
theorem dX3_hallsFrom_57 : decode cX3_hallsFrom 57 = .ok (.iand, 1) := by decide +kernel
theorem dX3_hallsFrom_58 : decode cX3_hallsFrom 58 = .ok (.ifCond .eq 8, 3) := by decide +kernel
theorem dX3_hallsFrom_61 : decode cX3_hallsFrom 61 = .ok (.iload_n 3, 1) := by decide +kernel
theorem dX3_hallsFrom_62 : decode cX3_hallsFrom 62 = .ok (.iload 6, 2) := by decide +kernel
theorem dX3_hallsFrom_64 : decode cX3_hallsFrom 64 = .ok (.ior, 1) := by decide +kernel
theorem dX3_hallsFrom_65 : decode cX3_hallsFrom 65 = .ok (.istore_n 3, 1) := by decide +kernel
theorem dX3_hallsFrom_66 : decode cX3_hallsFrom 66 = .ok (.iinc 5 1, 3) := by decide +kernel
theorem dX3_hallsFrom_69 : decode cX3_hallsFrom 69 = .ok (.goto (-52), 3) := by decide +kernel
theorem dX3_hallsFrom_72 : decode cX3_hallsFrom 72 = .ok (.iinc 4 1, 3) := by decide +kernel
theorem dX3_hallsFrom_75 : decode cX3_hallsFrom 75 = .ok (.goto (-68), 3) := by decide +kernel
theorem dX3_hallsFrom_78 : decode cX3_hallsFrom 78 = .ok (.iload_n 3, 1) := by decide +kernel
theorem dX3_hallsFrom_79 : decode cX3_hallsFrom 79 = .ok (.ireturn, 1) := by decide +kernel
theorem dX3_pairsOfHalls_0 : decode cX3_pairsOfHalls 0 = .ok (.iconst 0, 1) := by decide +kernel
theorem dX3_pairsOfHalls_1 : decode cX3_pairsOfHalls 1 = .ok (.istore_n 2, 1) := by decide +kernel
theorem dX3_pairsOfHalls_2 : decode cX3_pairsOfHalls 2 = .ok (.iconst 0, 1) := by decide +kernel
theorem dX3_pairsOfHalls_3 : decode cX3_pairsOfHalls 3 = .ok (.istore_n 3, 1) := by decide +kernel
theorem dX3_pairsOfHalls_4 : decode cX3_pairsOfHalls 4 = .ok (.iload_n 3, 1) := by decide +kernel
theorem dX3_pairsOfHalls_5 : decode cX3_pairsOfHalls 5 = .ok (.bipush 6, 2) := by decide +kernel
theorem dX3_pairsOfHalls_7 : decode cX3_pairsOfHalls 7 = .ok (.if_icmp .ge 23, 3) := by decide +kernel
theorem dX3_pairsOfHalls_10 : decode cX3_pairsOfHalls 10 = .ok (.iload_n 2, 1) := by decide +kernel
theorem dX3_pairsOfHalls_11 : decode cX3_pairsOfHalls 11 = .ok (.aload_n 0, 1) := by decide +kernel
theorem dX3_pairsOfHalls_12 : decode cX3_pairsOfHalls 12 = .ok (.iload_n 3, 1) := by decide +kernel
theorem dX3_pairsOfHalls_13 : decode cX3_pairsOfHalls 13 = .ok (.iload_n 1, 1) := by decide +kernel
theorem dX3_pairsOfHalls_14 : decode cX3_pairsOfHalls 14 = .ok (.invokevirtual 78, 3) := by decide +kernel
theorem dX3_pairsOfHalls_17 : decode cX3_pairsOfHalls 17 = .ok (.invokestatic 58, 3) := by decide +kernel
theorem dX3_pairsOfHalls_20 : decode cX3_pairsOfHalls 20 = .ok (.iconst 1, 1) := by decide +kernel
theorem dX3_pairsOfHalls_21 : decode cX3_pairsOfHalls 21 = .ok (.isub, 1) := by decide +kernel
theorem dX3_pairsOfHalls_22 : decode cX3_pairsOfHalls 22 = .ok (.iadd, 1) := by decide +kernel
theorem dX3_pairsOfHalls_23 : decode cX3_pairsOfHalls 23 = .ok (.istore_n 2, 1) := by decide +kernel
theorem dX3_pairsOfHalls_24 : decode cX3_pairsOfHalls 24 = .ok (.iinc 3 1, 3) := by decide +kernel
theorem dX3_pairsOfHalls_27 : decode cX3_pairsOfHalls 27 = .ok (.goto (-23), 3) := by decide +kernel
theorem dX3_pairsOfHalls_30 : decode cX3_pairsOfHalls 30 = .ok (.iload_n 2, 1) := by decide +kernel
theorem dX3_pairsOfHalls_31 : decode cX3_pairsOfHalls 31 = .ok (.iconst 2, 1) := by decide +kernel
theorem dX3_pairsOfHalls_32 : decode cX3_pairsOfHalls 32 = .ok (.idiv, 1) := by decide +kernel
theorem dX3_pairsOfHalls_33 : decode cX3_pairsOfHalls 33 = .ok (.ireturn, 1) := by decide +kernel
theorem dX4_init_0 : decode cX4_init 0 = .ok (.aload_n 0, 1) := by decide +kernel
theorem dX4_init_1 : decode cX4_init 1 = .ok (.invokespecial 3, 3) := by decide +kernel
theorem dX4_init_4 : decode cX4_init 4 = .ok (.aload_n 0, 1) := by decide +kernel
theorem dX4_init_5 : decode cX4_init 5 = .ok (.bipush 60, 2) := by decide +kernel
theorem dX4_init_7 : decode cX4_init 7 = .ok (.newarray .int, 2) := by decide +kernel
theorem dX4_init_9 : decode cX4_init 9 = .ok (.putfield 9, 3) := by decide +kernel
theorem dX4_init_12 : decode cX4_init 12 = .ok (.aload_n 0, 1) := by decide +kernel
theorem dX4_init_13 : decode cX4_init 13 = .ok (.iconst 0, 1) := by decide +kernel
theorem dX4_init_14 : decode cX4_init 14 = .ok (.putfield 15, 3) := by decide +kernel
theorem dX4_init_17 : decode cX4_init 17 = .ok (.return_, 1) := by decide +kernel
theorem dX4_add_0 : decode cX4_add 0 = .ok (.aload_n 0, 1) := by decide +kernel
theorem dX4_add_1 : decode cX4_add 1 = .ok (.getfield 15, 3) := by decide +kernel
theorem dX4_add_4 : decode cX4_add 4 = .ok (.bipush 60, 2) := by decide +kernel
theorem dX4_add_6 : decode cX4_add 6 = .ok (.if_icmp .ge 23, 3) := by decide +kernel
theorem dX4_add_9 : decode cX4_add 9 = .ok (.aload_n 0, 1) := by decide +kernel
theorem dX4_add_10 : decode cX4_add 10 = .ok (.getfield 9, 3) := by decide +kernel
theorem dX4_add_13 : decode cX4_add 13 = .ok (.aload_n 0, 1) := by decide +kernel
theorem dX4_add_14 : decode cX4_add 14 = .ok (.getfield 15, 3) := by decide +kernel
theorem dX4_add_17 : decode cX4_add 17 = .ok (.iload_n 1, 1) := by decide +kernel
theorem dX4_add_18 : decode cX4_add 18 = .ok (.iastore, 1) := by decide +kernel
theorem dX4_add_19 : decode cX4_add 19 = .ok (.aload_n 0, 1) := by decide +kernel
theorem dX4_add_20 : decode cX4_add 20 = .ok (.dup, 1) := by decide +kernel
theorem dX4_add_21 : decode cX4_add 21 = .ok (.getfield 15, 3) := by decide +kernel
theorem dX4_add_24 : decode cX4_add 24 = .ok (.iconst 1, 1) := by decide +kernel
theorem dX4_add_25 : decode cX4_add 25 = .ok (.iadd, 1) := by decide +kernel
theorem dX4_add_26 : decode cX4_add 26 = .ok (.putfield 15, 3) := by decide +kernel
theorem dX4_add_29 : decode cX4_add 29 = .ok (.aload_n 0, 1) := by decide +kernel
theorem dX4_add_30 : decode cX4_add 30 = .ok (.getfield 15, 3) := by decide +kernel
theorem dX4_add_33 : decode cX4_add 33 = .ok (.ireturn, 1) := by decide +kernel
theorem dX4_empty_0 : decode cX4_empty 0 = .ok (.aload_n 0, 1) := by decide +kernel
theorem dX4_empty_1 : decode cX4_empty 1 = .ok (.getfield 15, 3) := by decide +kernel
theorem dX4_empty_4 : decode cX4_empty 4 = .ok (.istore_n 1, 1) := by decide +kernel
theorem dX4_empty_5 : decode cX4_empty 5 = .ok (.aload_n 0, 1) := by decide +kernel
theorem dX4_empty_6 : decode cX4_empty 6 = .ok (.iconst 0, 1) := by decide +kernel
theorem dX4_empty_7 : decode cX4_empty 7 = .ok (.putfield 15, 3) := by decide +kernel
theorem dX4_empty_10 : decode cX4_empty 10 = .ok (.iload_n 1, 1) := by decide +kernel
theorem dX4_empty_11 : decode cX4_empty 11 = .ok (.ireturn, 1) := by decide +kernel
theorem dX4_faultPlace_0 : decode cX4_faultPlace 0 = .ok (.iconst 0, 1) := by decide +kernel
theorem dX4_faultPlace_1 : decode cX4_faultPlace 1 = .ok (.istore_n 1, 1) := by decide +kernel
theorem dX4_faultPlace_2 : decode cX4_faultPlace 2 = .ok (.iconst 0, 1) := by decide +kernel
theorem dX4_faultPlace_3 : decode cX4_faultPlace 3 = .ok (.istore_n 2, 1) := by decide +kernel
theorem dX4_faultPlace_4 : decode cX4_faultPlace 4 = .ok (.iload_n 2, 1) := by decide +kernel
theorem dX4_faultPlace_5 : decode cX4_faultPlace 5 = .ok (.aload_n 0, 1) := by decide +kernel
theorem dX4_faultPlace_6 : decode cX4_faultPlace 6 = .ok (.getfield 15, 3) := by decide +kernel
theorem dX4_faultPlace_9 : decode cX4_faultPlace 9 = .ok (.if_icmp .ge 26, 3) := by decide +kernel
theorem dX4_faultPlace_12 : decode cX4_faultPlace 12 = .ok (.iload_n 1, 1) := by decide +kernel
theorem dX4_faultPlace_13 : decode cX4_faultPlace 13 = .ok (.aload_n 0, 1) := by decide +kernel
theorem dX4_faultPlace_14 : decode cX4_faultPlace 14 = .ok (.iload_n 2, 1) := by decide +kernel
theorem dX4_faultPlace_15 : decode cX4_faultPlace 15 = .ok (.invokevirtual 19, 3) := by decide +kernel
theorem dX4_faultPlace_18 : decode cX4_faultPlace 18 = .ok (.invokestatic 23, 3) := by decide +kernel
theorem dX4_faultPlace_21 : decode cX4_faultPlace 21 = .ok (.istore_n 1, 1) := by decide +kernel
theorem dX4_faultPlace_22 : decode cX4_faultPlace 22 = .ok (.iload_n 1, 1) := by decide +kernel
theorem dX4_faultPlace_23 : decode cX4_faultPlace 23 = .ok (.iconst 5, 1) := by decide +kernel
theorem dX4_faultPlace_24 : decode cX4_faultPlace 24 = .ok (.if_icmp .ne 5, 3) := by decide +kernel
theorem dX4_faultPlace_27 : decode cX4_faultPlace 27 = .ok (.iload_n 2, 1) := by decide +kernel
theorem dX4_faultPlace_28 : decode cX4_faultPlace 28 = .ok (.ireturn, 1) := by decide +kernel
theorem dX4_faultPlace_29 : decode cX4_faultPlace 29 = .ok (.iinc 2 1, 3) := by decide +kernel
theorem dX4_faultPlace_32 : decode cX4_faultPlace 32 = .ok (.goto (-28), 3) := by decide +kernel
theorem dX4_faultPlace_35 : decode cX4_faultPlace 35 = .ok (.iload_n 1, 1) := by decide +kernel
theorem dX4_faultPlace_36 : decode cX4_faultPlace 36 = .ok (.iconst 4, 1) := by decide +kernel
theorem dX4_faultPlace_37 : decode cX4_faultPlace 37 = .ok (.if_icmp .ne 8, 3) := by decide +kernel
theorem dX4_faultPlace_40 : decode cX4_faultPlace 40 = .ok (.bipush (-4), 2) := by decide +kernel
theorem dX4_faultPlace_42 : decode cX4_faultPlace 42 = .ok (.goto 7, 3) := by decide +kernel
theorem dX4_faultPlace_45 : decode cX4_faultPlace 45 = .ok (.aload_n 0, 1) := by decide +kernel
theorem dX4_faultPlace_46 : decode cX4_faultPlace 46 = .ok (.getfield 15, 3) := by decide +kernel
theorem dX4_faultPlace_49 : decode cX4_faultPlace 49 = .ok (.ireturn, 1) := by decide +kernel
theorem dX4_expectedAfter_0 : decode cX4_expectedAfter 0 = .ok (.iload_n 0, 1) := by decide +kernel
theorem dX4_expectedAfter_1 : decode cX4_expectedAfter 1 = .ok (.tableswitch 129 0 4 #[35, 61, 77, 101, 117], 35) := by decide +kernel
theorem dX4_expectedAfter_36 : decode cX4_expectedAfter 36 = .ok (.iload_n 1, 1) := by decide +kernel
theorem dX4_expectedAfter_37 : decode cX4_expectedAfter 37 = .ok (.bipush 103, 2) := by decide +kernel
theorem dX4_expectedAfter_39 : decode cX4_expectedAfter 39 = .ok (.if_icmp .ne 5, 3) := by decide +kernel
theorem dX4_expectedAfter_42 : decode cX4_expectedAfter 42 = .ok (.iconst 1, 1) := by decide +kernel
theorem dX4_expectedAfter_43 : decode cX4_expectedAfter 43 = .ok (.ireturn, 1) := by decide +kernel
theorem dX4_expectedAfter_44 : decode cX4_expectedAfter 44 = .ok (.iload_n 1, 1) := by decide +kernel
theorem dX4_expectedAfter_45 : decode cX4_expectedAfter 45 = .ok (.bipush 111, 2) := by decide +kernel
theorem dX4_expectedAfter_47 : decode cX4_expectedAfter 47 = .ok (.if_icmp .eq 9, 3) := by decide +kernel
theorem dX4_expectedAfter_50 : decode cX4_expectedAfter 50 = .ok (.iload_n 1, 1) := by decide +kernel
theorem dX4_expectedAfter_51 : decode cX4_expectedAfter 51 = .ok (.bipush 99, 2) := by decide +kernel
theorem dX4_expectedAfter_53 : decode cX4_expectedAfter 53 = .ok (.if_icmp .ne 7, 3) := by decide +kernel
theorem dX4_expectedAfter_56 : decode cX4_expectedAfter 56 = .ok (.iconst 3, 1) := by decide +kernel
theorem dX4_expectedAfter_57 : decode cX4_expectedAfter 57 = .ok (.goto 4, 3) := by decide +kernel
theorem dX4_expectedAfter_60 : decode cX4_expectedAfter 60 = .ok (.iconst 5, 1) := by decide +kernel
theorem dX4_expectedAfter_61 : decode cX4_expectedAfter 61 = .ok (.ireturn, 1) := by decide +kernel
theorem dX4_expectedAfter_62 : decode cX4_expectedAfter 62 = .ok (.iload_n 1, 1) := by decide +kernel
theorem dX4_expectedAfter_63 : decode cX4_expectedAfter 63 = .ok (.bipush 48, 2) := by decide +kernel
theorem dX4_expectedAfter_65 : decode cX4_expectedAfter 65 = .ok (.isub, 1) := by decide +kernel
theorem dX4_expectedAfter_66 : decode cX4_expectedAfter 66 = .ok (.invokestatic 27, 3) := by decide +kernel
theorem dX4_expectedAfter_69 : decode cX4_expectedAfter 69 = .ok (.ifCond .eq 7, 3) := by decide +kernel
theorem dX4_expectedAfter_72 : decode cX4_expectedAfter 72 = .ok (.iconst 2, 1) := by decide +kernel
theorem dX4_expectedAfter_73 : decode cX4_expectedAfter 73 = .ok (.goto 4, 3) := by decide +kernel
theorem dX4_expectedAfter_76 : decode cX4_expectedAfter 76 = .ok (.iconst 5, 1) := by decide +kernel
theorem dX4_expectedAfter_77 : decode cX4_expectedAfter 77 = .ok (.ireturn, 1) := by decide +kernel
theorem dX4_expectedAfter_78 : decode cX4_expectedAfter 78 = .ok (.iload_n 1, 1) := by decide +kernel
theorem dX4_expectedAfter_79 : decode cX4_expectedAfter 79 = .ok (.bipush 111, 2) := by decide +kernel
theorem dX4_expectedAfter_81 : decode cX4_expectedAfter 81 = .ok (.if_icmp .eq 15, 3) := by decide +kernel
theorem dX4_expectedAfter_84 : decode cX4_expectedAfter 84 = .ok (.iload_n 1, 1) := by decide +kernel
theorem dX4_expectedAfter_85 : decode cX4_expectedAfter 85 = .ok (.bipush 99, 2) := by decide +kernel
theorem dX4_expectedAfter_87 : decode cX4_expectedAfter 87 = .ok (.if_icmp .eq 9, 3) := by decide +kernel
theorem dX4_expectedAfter_90 : decode cX4_expectedAfter 90 = .ok (.iload_n 1, 1) := by decide +kernel
theorem dX4_expectedAfter_91 : decode cX4_expectedAfter 91 = .ok (.bipush 119, 2) := by decide +kernel
theorem dX4_expectedAfter_93 : decode cX4_expectedAfter 93 = .ok (.if_icmp .ne 7, 3) := by decide +kernel
theorem dX4_expectedAfter_96 : decode cX4_expectedAfter 96 = .ok (.iconst 3, 1) := by decide +kernel
theorem dX4_expectedAfter_97 : decode cX4_expectedAfter 97 = .ok (.goto 4, 3) := by decide +kernel
theorem dX4_expectedAfter_100 : decode cX4_expectedAfter 100 = .ok (.iconst 5, 1) := by decide +kernel
theorem dX4_expectedAfter_101 : decode cX4_expectedAfter 101 = .ok (.ireturn, 1) := by decide +kernel
theorem dX4_expectedAfter_102 : decode cX4_expectedAfter 102 = .ok (.iload_n 1, 1) := by decide +kernel
theorem dX4_expectedAfter_103 : decode cX4_expectedAfter 103 = .ok (.bipush 48, 2) := by decide +kernel
theorem dX4_expectedAfter_105 : decode cX4_expectedAfter 105 = .ok (.isub, 1) := by decide +kernel
theorem dX4_expectedAfter_106 : decode cX4_expectedAfter 106 = .ok (.invokestatic 31, 3) := by decide +kernel
theorem dX4_expectedAfter_109 : decode cX4_expectedAfter 109 = .ok (.ifCond .eq 7, 3) := by decide +kernel
theorem dX4_expectedAfter_112 : decode cX4_expectedAfter 112 = .ok (.iconst 4, 1) := by decide +kernel
theorem dX4_expectedAfter_113 : decode cX4_expectedAfter 113 = .ok (.goto 4, 3) := by decide +kernel
theorem dX4_expectedAfter_116 : decode cX4_expectedAfter 116 = .ok (.iconst 5, 1) := by decide +kernel
theorem dX4_expectedAfter_117 : decode cX4_expectedAfter 117 = .ok (.ireturn, 1) := by decide +kernel
theorem dX4_expectedAfter_118 : decode cX4_expectedAfter 118 = .ok (.iload_n 1, 1) := by decide +kernel
theorem dX4_expectedAfter_119 : decode cX4_expectedAfter 119 = .ok (.bipush 59, 2) := by decide +kernel
theorem dX4_expectedAfter_121 : decode cX4_expectedAfter 121 = .ok (.if_icmp .ne 7, 3) := by decide +kernel
theorem dX4_expectedAfter_124 : decode cX4_expectedAfter 124 = .ok (.iconst 0, 1) := by decide +kernel
theorem dX4_expectedAfter_125 : decode cX4_expectedAfter 125 = .ok (.goto 4, 3) := by decide +kernel
theorem dX4_expectedAfter_128 : decode cX4_expectedAfter 128 = .ok (.iconst 5, 1) := by decide +kernel
theorem dX4_expectedAfter_129 : decode cX4_expectedAfter 129 = .ok (.ireturn, 1) := by decide +kernel
theorem dX4_expectedAfter_130 : decode cX4_expectedAfter 130 = .ok (.iconst 5, 1) := by decide +kernel
theorem dX4_expectedAfter_131 : decode cX4_expectedAfter 131 = .ok (.ireturn, 1) := by decide +kernel
theorem dX4_codeAt_0 : decode cX4_codeAt 0 = .ok (.iload_n 1, 1) := by decide +kernel
theorem dX4_codeAt_1 : decode cX4_codeAt 1 = .ok (.ifCond .lt 20, 3) := by decide +kernel
theorem dX4_codeAt_4 : decode cX4_codeAt 4 = .ok (.iload_n 1, 1) := by decide +kernel
theorem dX4_codeAt_5 : decode cX4_codeAt 5 = .ok (.aload_n 0, 1) := by decide +kernel
theorem dX4_codeAt_6 : decode cX4_codeAt 6 = .ok (.getfield 15, 3) := by decide +kernel
theorem dX4_codeAt_9 : decode cX4_codeAt 9 = .ok (.if_icmp .ge 12, 3) := by decide +kernel
theorem dX4_codeAt_12 : decode cX4_codeAt 12 = .ok (.aload_n 0, 1) := by decide +kernel
theorem dX4_codeAt_13 : decode cX4_codeAt 13 = .ok (.getfield 9, 3) := by decide +kernel
theorem dX4_codeAt_16 : decode cX4_codeAt 16 = .ok (.iload_n 1, 1) := by decide +kernel
theorem dX4_codeAt_17 : decode cX4_codeAt 17 = .ok (.iaload, 1) := by decide +kernel
theorem dX4_codeAt_18 : decode cX4_codeAt 18 = .ok (.goto 4, 3) := by decide +kernel
theorem dX4_codeAt_21 : decode cX4_codeAt 21 = .ok (.iconst 0, 1) := by decide +kernel
theorem dX4_codeAt_22 : decode cX4_codeAt 22 = .ok (.ireturn, 1) := by decide +kernel
theorem dX4_isGuestsDeed_0 : decode cX4_isGuestsDeed 0 = .ok (.aload_n 0, 1) := by decide +kernel
theorem dX4_isGuestsDeed_1 : decode cX4_isGuestsDeed 1 = .ok (.iload_n 1, 1) := by decide +kernel
theorem dX4_isGuestsDeed_2 : decode cX4_isGuestsDeed 2 = .ok (.invokevirtual 19, 3) := by decide +kernel
theorem dX4_isGuestsDeed_5 : decode cX4_isGuestsDeed 5 = .ok (.bipush 103, 2) := by decide +kernel
theorem dX4_isGuestsDeed_7 : decode cX4_isGuestsDeed 7 = .ok (.if_icmp .ne 7, 3) := by decide +kernel
theorem dX4_isGuestsDeed_10 : decode cX4_isGuestsDeed 10 = .ok (.iconst 1, 1) := by decide +kernel
theorem dX4_isGuestsDeed_11 : decode cX4_isGuestsDeed 11 = .ok (.goto 4, 3) := by decide +kernel
theorem dX4_isGuestsDeed_14 : decode cX4_isGuestsDeed 14 = .ok (.iconst 0, 1) := by decide +kernel
theorem dX4_isGuestsDeed_15 : decode cX4_isGuestsDeed 15 = .ok (.ireturn, 1) := by decide +kernel
theorem dX4_guestOfDeed_0 : decode cX4_guestOfDeed 0 = .ok (.aload_n 0, 1) := by decide +kernel
theorem dX4_guestOfDeed_1 : decode cX4_guestOfDeed 1 = .ok (.iload_n 1, 1) := by decide +kernel
theorem dX4_guestOfDeed_2 : decode cX4_guestOfDeed 2 = .ok (.iconst 1, 1) := by decide +kernel
theorem dX4_guestOfDeed_3 : decode cX4_guestOfDeed 3 = .ok (.iadd, 1) := by decide +kernel
theorem dX4_guestOfDeed_4 : decode cX4_guestOfDeed 4 = .ok (.invokevirtual 19, 3) := by decide +kernel
theorem dX4_guestOfDeed_7 : decode cX4_guestOfDeed 7 = .ok (.bipush 48, 2) := by decide +kernel
theorem dX4_guestOfDeed_9 : decode cX4_guestOfDeed 9 = .ok (.isub, 1) := by decide +kernel
theorem dX4_guestOfDeed_10 : decode cX4_guestOfDeed 10 = .ok (.ireturn, 1) := by decide +kernel
theorem dX4_letterOfDeed_0 : decode cX4_letterOfDeed 0 = .ok (.aload_n 0, 1) := by decide +kernel
theorem dX4_letterOfDeed_1 : decode cX4_letterOfDeed 1 = .ok (.aload_n 0, 1) := by decide +kernel
theorem dX4_letterOfDeed_2 : decode cX4_letterOfDeed 2 = .ok (.iload_n 1, 1) := by decide +kernel
theorem dX4_letterOfDeed_3 : decode cX4_letterOfDeed 3 = .ok (.invokevirtual 34, 3) := by decide +kernel
theorem dX4_letterOfDeed_6 : decode cX4_letterOfDeed 6 = .ok (.invokevirtual 19, 3) := by decide +kernel
theorem dX4_letterOfDeed_9 : decode cX4_letterOfDeed 9 = .ok (.ireturn, 1) := by decide +kernel
theorem dX4_doorOfDeed_0 : decode cX4_doorOfDeed 0 = .ok (.aload_n 0, 1) := by decide +kernel
theorem dX4_doorOfDeed_1 : decode cX4_doorOfDeed 1 = .ok (.aload_n 0, 1) := by decide +kernel
theorem dX4_doorOfDeed_2 : decode cX4_doorOfDeed 2 = .ok (.iload_n 1, 1) := by decide +kernel
theorem dX4_doorOfDeed_3 : decode cX4_doorOfDeed 3 = .ok (.invokevirtual 34, 3) := by decide +kernel
theorem dX4_doorOfDeed_6 : decode cX4_doorOfDeed 6 = .ok (.iconst 1, 1) := by decide +kernel
theorem dX4_doorOfDeed_7 : decode cX4_doorOfDeed 7 = .ok (.iadd, 1) := by decide +kernel
theorem dX4_doorOfDeed_8 : decode cX4_doorOfDeed 8 = .ok (.invokevirtual 19, 3) := by decide +kernel
theorem dX4_doorOfDeed_11 : decode cX4_doorOfDeed 11 = .ok (.bipush 48, 2) := by decide +kernel
theorem dX4_doorOfDeed_13 : decode cX4_doorOfDeed 13 = .ok (.isub, 1) := by decide +kernel
theorem dX4_doorOfDeed_14 : decode cX4_doorOfDeed 14 = .ok (.ireturn, 1) := by decide +kernel
theorem dX4_placeOfNextDeed_0 : decode cX4_placeOfNextDeed 0 = .ok (.aload_n 0, 1) := by decide +kernel
theorem dX4_placeOfNextDeed_1 : decode cX4_placeOfNextDeed 1 = .ok (.iload_n 1, 1) := by decide +kernel
theorem dX4_placeOfNextDeed_2 : decode cX4_placeOfNextDeed 2 = .ok (.invokevirtual 34, 3) := by decide +kernel
theorem dX4_placeOfNextDeed_5 : decode cX4_placeOfNextDeed 5 = .ok (.iconst 3, 1) := by decide +kernel
theorem dX4_placeOfNextDeed_6 : decode cX4_placeOfNextDeed 6 = .ok (.iadd, 1) := by decide +kernel
theorem dX4_placeOfNextDeed_7 : decode cX4_placeOfNextDeed 7 = .ok (.ireturn, 1) := by decide +kernel
theorem dX4_placeOfLetter_0 : decode cX4_placeOfLetter 0 = .ok (.aload_n 0, 1) := by decide +kernel
theorem dX4_placeOfLetter_1 : decode cX4_placeOfLetter 1 = .ok (.iload_n 1, 1) := by decide +kernel
theorem dX4_placeOfLetter_2 : decode cX4_placeOfLetter 2 = .ok (.invokevirtual 37, 3) := by decide +kernel
theorem dX4_placeOfLetter_5 : decode cX4_placeOfLetter 5 = .ok (.ifCond .eq 9, 3) := by decide +kernel
theorem dX4_placeOfLetter_8 : decode cX4_placeOfLetter 8 = .ok (.iload_n 1, 1) := by decide +kernel
theorem dX4_placeOfLetter_9 : decode cX4_placeOfLetter 9 = .ok (.iconst 2, 1) := by decide +kernel
theorem dX4_placeOfLetter_10 : decode cX4_placeOfLetter 10 = .ok (.iadd, 1) := by decide +kernel
theorem dX4_placeOfLetter_11 : decode cX4_placeOfLetter 11 = .ok (.goto 4, 3) := by decide +kernel
theorem dX4_placeOfLetter_14 : decode cX4_placeOfLetter 14 = .ok (.iload_n 1, 1) := by decide +kernel
theorem dX4_placeOfLetter_15 : decode cX4_placeOfLetter 15 = .ok (.ireturn, 1) := by decide +kernel
theorem dX5_init_0 : decode cX5_init 0 = .ok (.aload_n 0, 1) := by decide +kernel
theorem dX5_init_1 : decode cX5_init 1 = .ok (.invokespecial 3, 3) := by decide +kernel
theorem dX5_init_4 : decode cX5_init 4 = .ok (.aload_n 0, 1) := by decide +kernel
theorem dX5_init_5 : decode cX5_init 5 = .ok (.new 9, 3) := by decide +kernel
theorem dX5_init_8 : decode cX5_init 8 = .ok (.dup, 1) := by decide +kernel
theorem dX5_init_9 : decode cX5_init 9 = .ok (.invokespecial 11, 3) := by decide +kernel
theorem dX5_init_12 : decode cX5_init 12 = .ok (.putfield 12, 3) := by decide +kernel
theorem dX5_init_15 : decode cX5_init 15 = .ok (.aload_n 0, 1) := by decide +kernel
theorem dX5_init_16 : decode cX5_init 16 = .ok (.new 18, 3) := by decide +kernel
theorem dX5_init_19 : decode cX5_init 19 = .ok (.dup, 1) := by decide +kernel
theorem dX5_init_20 : decode cX5_init 20 = .ok (.invokespecial 20, 3) := by decide +kernel
theorem dX5_init_23 : decode cX5_init 23 = .ok (.putfield 21, 3) := by decide +kernel
theorem dX5_init_26 : decode cX5_init 26 = .ok (.aload_n 0, 1) := by decide +kernel
theorem dX5_init_27 : decode cX5_init 27 = .ok (.new 25, 3) := by decide +kernel
theorem dX5_init_30 : decode cX5_init 30 = .ok (.dup, 1) := by decide +kernel
theorem dX5_init_31 : decode cX5_init 31 = .ok (.invokespecial 27, 3) := by decide +kernel
theorem dX5_init_34 : decode cX5_init 34 = .ok (.putfield 28, 3) := by decide +kernel
theorem dX5_init_37 : decode cX5_init 37 = .ok (.aload_n 0, 1) := by decide +kernel
theorem dX5_init_38 : decode cX5_init 38 = .ok (.iconst 0, 1) := by decide +kernel
theorem dX5_init_39 : decode cX5_init 39 = .ok (.putfield 32, 3) := by decide +kernel
theorem dX5_init_42 : decode cX5_init 42 = .ok (.return_, 1) := by decide +kernel
theorem dX5_copy_0 : decode cX5_copy 0 = .ok (.aload_n 0, 1) := by decide +kernel
theorem dX5_copy_1 : decode cX5_copy 1 = .ok (.getfield 12, 3) := by decide +kernel
theorem dX5_copy_4 : decode cX5_copy 4 = .ok (.aload_n 1, 1) := by decide +kernel
theorem dX5_copy_5 : decode cX5_copy 5 = .ok (.getfield 12, 3) := by decide +kernel
theorem dX5_copy_8 : decode cX5_copy 8 = .ok (.invokevirtual 36, 3) := by decide +kernel
theorem dX5_copy_11 : decode cX5_copy 11 = .ok (.aload_n 0, 1) := by decide +kernel
theorem dX5_copy_12 : decode cX5_copy 12 = .ok (.getfield 21, 3) := by decide +kernel
theorem dX5_copy_15 : decode cX5_copy 15 = .ok (.aload_n 1, 1) := by decide +kernel
theorem dX5_copy_16 : decode cX5_copy 16 = .ok (.getfield 21, 3) := by decide +kernel
theorem dX5_copy_19 : decode cX5_copy 19 = .ok (.invokevirtual 40, 3) := by decide +kernel
theorem dX5_copy_22 : decode cX5_copy 22 = .ok (.aload_n 0, 1) := by decide +kernel
theorem dX5_copy_23 : decode cX5_copy 23 = .ok (.getfield 28, 3) := by decide +kernel
theorem dX5_copy_26 : decode cX5_copy 26 = .ok (.aload_n 1, 1) := by decide +kernel
theorem dX5_copy_27 : decode cX5_copy 27 = .ok (.getfield 28, 3) := by decide +kernel
theorem dX5_copy_30 : decode cX5_copy 30 = .ok (.invokevirtual 43, 3) := by decide +kernel
theorem dX5_copy_33 : decode cX5_copy 33 = .ok (.aload_n 0, 1) := by decide +kernel
theorem dX5_copy_34 : decode cX5_copy 34 = .ok (.aload_n 1, 1) := by decide +kernel
theorem dX5_copy_35 : decode cX5_copy 35 = .ok (.getfield 32, 3) := by decide +kernel
theorem dX5_copy_38 : decode cX5_copy 38 = .ok (.putfield 32, 3) := by decide +kernel
theorem dX5_copy_41 : decode cX5_copy 41 = .ok (.return_, 1) := by decide +kernel
theorem dX5_isOpen_0 : decode cX5_isOpen 0 = .ok (.aload_n 0, 1) := by decide +kernel
theorem dX5_isOpen_1 : decode cX5_isOpen 1 = .ok (.getfield 32, 3) := by decide +kernel
theorem dX5_isOpen_4 : decode cX5_isOpen 4 = .ok (.iload_n 1, 1) := by decide +kernel
theorem dX5_isOpen_5 : decode cX5_isOpen 5 = .ok (.invokestatic 46, 3) := by decide +kernel
theorem dX5_isOpen_8 : decode cX5_isOpen 8 = .ok (.ireturn, 1) := by decide +kernel
theorem dX5_shutDoors_0 : decode cX5_shutDoors 0 = .ok (.sipush 1023, 3) := by decide +kernel
theorem dX5_shutDoors_3 : decode cX5_shutDoors 3 = .ok (.aload_n 0, 1) := by decide +kernel
theorem dX5_shutDoors_4 : decode cX5_shutDoors 4 = .ok (.getfield 32, 3) := by decide +kernel
theorem dX5_shutDoors_7 : decode cX5_shutDoors 7 = .ok (.iconst (-1), 1) := by decide +kernel
theorem dX5_shutDoors_8 : decode cX5_shutDoors 8 = .ok (.ixor, 1) := by decide +kernel
theorem dX5_shutDoors_9 : decode cX5_shutDoors 9 = .ok (.iand, 1) := by decide +kernel
theorem dX5_shutDoors_10 : decode cX5_shutDoors 10 = .ok (.ireturn, 1) := by decide +kernel
theorem dX5_reasonNotToOpen_0 : decode cX5_reasonNotToOpen 0 = .ok (.aload_n 0, 1) := by decide +kernel
theorem dX5_reasonNotToOpen_1 : decode cX5_reasonNotToOpen 1 = .ok (.iload_n 1, 1) := by decide +kernel
theorem dX5_reasonNotToOpen_2 : decode cX5_reasonNotToOpen 2 = .ok (.invokevirtual 50, 3) := by decide +kernel
theorem dX5_reasonNotToOpen_5 : decode cX5_reasonNotToOpen 5 = .ok (.ifCond .eq 5, 3) := by decide +kernel
theorem dX5_reasonNotToOpen_8 : decode cX5_reasonNotToOpen 8 = .ok (.iconst 1, 1) := by decide +kernel
theorem dX5_reasonNotToOpen_9 : decode cX5_reasonNotToOpen 9 = .ok (.ireturn, 1) := by decide +kernel
theorem dX5_reasonNotToOpen_10 : decode cX5_reasonNotToOpen 10 = .ok (.aload_n 0, 1) := by decide +kernel
theorem dX5_reasonNotToOpen_11 : decode cX5_reasonNotToOpen 11 = .ok (.getfield 12, 3) := by decide +kernel
theorem dX5_reasonNotToOpen_14 : decode cX5_reasonNotToOpen 14 = .ok (.aload_n 0, 1) := by decide +kernel
theorem dX5_reasonNotToOpen_15 : decode cX5_reasonNotToOpen 15 = .ok (.getfield 32, 3) := by decide +kernel
theorem dX5_reasonNotToOpen_18 : decode cX5_reasonNotToOpen 18 = .ok (.invokevirtual 54, 3) := by decide +kernel
theorem dX5_reasonNotToOpen_21 : decode cX5_reasonNotToOpen 21 = .ok (.iload_n 1, 1) := by decide +kernel
theorem dX5_reasonNotToOpen_22 : decode cX5_reasonNotToOpen 22 = .ok (.invokestatic 46, 3) := by decide +kernel
theorem dX5_reasonNotToOpen_25 : decode cX5_reasonNotToOpen 25 = .ok (.ifCond .eq 7, 3) := by decide +kernel
theorem dX5_reasonNotToOpen_28 : decode cX5_reasonNotToOpen 28 = .ok (.iconst 2, 1) := by decide +kernel
theorem dX5_reasonNotToOpen_29 : decode cX5_reasonNotToOpen 29 = .ok (.goto 4, 3) := by decide +kernel
theorem dX5_reasonNotToOpen_32 : decode cX5_reasonNotToOpen 32 = .ok (.iconst 0, 1) := by decide +kernel
theorem dX5_reasonNotToOpen_33 : decode cX5_reasonNotToOpen 33 = .ok (.ireturn, 1) := by decide +kernel
theorem dX5_reasonNotToShut_0 : decode cX5_reasonNotToShut 0 = .ok (.aload_n 0, 1) := by decide +kernel
theorem dX5_reasonNotToShut_1 : decode cX5_reasonNotToShut 1 = .ok (.iload_n 1, 1) := by decide +kernel
theorem dX5_reasonNotToShut_2 : decode cX5_reasonNotToShut 2 = .ok (.invokevirtual 50, 3) := by decide +kernel
theorem dX5_reasonNotToShut_5 : decode cX5_reasonNotToShut 5 = .ok (.ifCond .eq 7, 3) := by decide +kernel
theorem dX5_reasonNotToShut_8 : decode cX5_reasonNotToShut 8 = .ok (.iconst 0, 1) := by decide +kernel
theorem dX5_reasonNotToShut_9 : decode cX5_reasonNotToShut 9 = .ok (.goto 4, 3) := by decide +kernel
theorem dX5_reasonNotToShut_12 : decode cX5_reasonNotToShut 12 = .ok (.iconst 3, 1) := by decide +kernel
theorem dX5_reasonNotToShut_13 : decode cX5_reasonNotToShut 13 = .ok (.ireturn, 1) := by decide +kernel
theorem dX5_isAtDoor_0 : decode cX5_isAtDoor 0 = .ok (.aload_n 0, 1) := by decide +kernel
theorem dX5_isAtDoor_1 : decode cX5_isAtDoor 1 = .ok (.getfield 12, 3) := by decide +kernel
theorem dX5_isAtDoor_4 : decode cX5_isAtDoor 4 = .ok (.aload_n 0, 1) := by decide +kernel
theorem dX5_isAtDoor_5 : decode cX5_isAtDoor 5 = .ok (.getfield 21, 3) := by decide +kernel
theorem dX5_isAtDoor_8 : decode cX5_isAtDoor 8 = .ok (.getfield 58, 3) := by decide +kernel
theorem dX5_isAtDoor_11 : decode cX5_isAtDoor 11 = .ok (.iload_n 1, 1) := by decide +kernel
theorem dX5_isAtDoor_12 : decode cX5_isAtDoor 12 = .ok (.iaload, 1) := by decide +kernel
theorem dX5_isAtDoor_13 : decode cX5_isAtDoor 13 = .ok (.invokevirtual 62, 3) := by decide +kernel
theorem dX5_isAtDoor_16 : decode cX5_isAtDoor 16 = .ok (.iload_n 2, 1) := by decide +kernel
theorem dX5_isAtDoor_17 : decode cX5_isAtDoor 17 = .ok (.invokestatic 46, 3) := by decide +kernel
theorem dX5_isAtDoor_20 : decode cX5_isAtDoor 20 = .ok (.ireturn, 1) := by decide +kernel
theorem dX5_reasonNotToOpenAsGuest_0 : decode cX5_reasonNotToOpenAsGuest 0 = .ok (.aload_n 0, 1) := by decide +kernel
theorem dX5_reasonNotToOpenAsGuest_1 : decode cX5_reasonNotToOpenAsGuest 1 = .ok (.iload_n 1, 1) := by decide +kernel
theorem dX5_reasonNotToOpenAsGuest_2 : decode cX5_reasonNotToOpenAsGuest 2 = .ok (.iload_n 2, 1) := by decide +kernel
theorem dX5_reasonNotToOpenAsGuest_3 : decode cX5_reasonNotToOpenAsGuest 3 = .ok (.invokevirtual 65, 3) := by decide +kernel
theorem dX5_reasonNotToOpenAsGuest_6 : decode cX5_reasonNotToOpenAsGuest 6 = .ok (.ifCond .ne 5, 3) := by decide +kernel
theorem dX5_reasonNotToOpenAsGuest_9 : decode cX5_reasonNotToOpenAsGuest 9 = .ok (.iconst 5, 1) := by decide +kernel
theorem dX5_reasonNotToOpenAsGuest_10 : decode cX5_reasonNotToOpenAsGuest 10 = .ok (.ireturn, 1) := by decide +kernel
theorem dX5_reasonNotToOpenAsGuest_11 : decode cX5_reasonNotToOpenAsGuest 11 = .ok (.aload_n 0, 1) := by decide +kernel
theorem dX5_reasonNotToOpenAsGuest_12 : decode cX5_reasonNotToOpenAsGuest 12 = .ok (.getfield 21, 3) := by decide +kernel
theorem dX5_reasonNotToOpenAsGuest_15 : decode cX5_reasonNotToOpenAsGuest 15 = .ok (.getfield 68, 3) := by decide +kernel
theorem dX5_reasonNotToOpenAsGuest_18 : decode cX5_reasonNotToOpenAsGuest 18 = .ok (.iload_n 1, 1) := by decide +kernel
theorem dX5_reasonNotToOpenAsGuest_19 : decode cX5_reasonNotToOpenAsGuest 19 = .ok (.iaload, 1) := by decide +kernel
theorem dX5_reasonNotToOpenAsGuest_20 : decode cX5_reasonNotToOpenAsGuest 20 = .ok (.iload_n 2, 1) := by decide +kernel
theorem dX5_reasonNotToOpenAsGuest_21 : decode cX5_reasonNotToOpenAsGuest 21 = .ok (.invokestatic 46, 3) := by decide +kernel
theorem dX5_reasonNotToOpenAsGuest_24 : decode cX5_reasonNotToOpenAsGuest 24 = .ok (.ifCond .eq 11, 3) := by decide +kernel
theorem dX5_reasonNotToOpenAsGuest_27 : decode cX5_reasonNotToOpenAsGuest 27 = .ok (.aload_n 0, 1) := by decide +kernel
theorem dX5_reasonNotToOpenAsGuest_28 : decode cX5_reasonNotToOpenAsGuest 28 = .ok (.iload_n 2, 1) := by decide +kernel
theorem dX5_reasonNotToOpenAsGuest_29 : decode cX5_reasonNotToOpenAsGuest 29 = .ok (.invokevirtual 71, 3) := by decide +kernel
theorem dX5_reasonNotToOpenAsGuest_32 : decode cX5_reasonNotToOpenAsGuest 32 = .ok (.goto 5, 3) := by decide +kernel
theorem dX5_reasonNotToOpenAsGuest_35 : decode cX5_reasonNotToOpenAsGuest 35 = .ok (.bipush 6, 2) := by decide +kernel
theorem dX5_reasonNotToOpenAsGuest_37 : decode cX5_reasonNotToOpenAsGuest 37 = .ok (.ireturn, 1) := by decide +kernel
theorem dX5_reasonNotToUse_0 : decode cX5_reasonNotToUse 0 = .ok (.aload_n 0, 1) := by decide +kernel
theorem dX5_reasonNotToUse_1 : decode cX5_reasonNotToUse 1 = .ok (.iload_n 1, 1) := by decide +kernel
theorem dX5_reasonNotToUse_2 : decode cX5_reasonNotToUse 2 = .ok (.iload_n 2, 1) := by decide +kernel
theorem dX5_reasonNotToUse_3 : decode cX5_reasonNotToUse 3 = .ok (.invokevirtual 65, 3) := by decide +kernel
theorem dX5_reasonNotToUse_6 : decode cX5_reasonNotToUse 6 = .ok (.ifCond .eq 11, 3) := by decide +kernel
theorem dX5_reasonNotToUse_9 : decode cX5_reasonNotToUse 9 = .ok (.aload_n 0, 1) := by decide +kernel
theorem dX5_reasonNotToUse_10 : decode cX5_reasonNotToUse 10 = .ok (.iload_n 2, 1) := by decide +kernel
theorem dX5_reasonNotToUse_11 : decode cX5_reasonNotToUse 11 = .ok (.invokevirtual 74, 3) := by decide +kernel
theorem dX5_reasonNotToUse_14 : decode cX5_reasonNotToUse 14 = .ok (.goto 4, 3) := by decide +kernel
theorem dX5_reasonNotToUse_17 : decode cX5_reasonNotToUse 17 = .ok (.iconst 5, 1) := by decide +kernel
theorem dX5_reasonNotToUse_18 : decode cX5_reasonNotToUse 18 = .ok (.ireturn, 1) := by decide +kernel
theorem dX5_howManyCouldOpen_0 : decode cX5_howManyCouldOpen 0 = .ok (.iconst 0, 1) := by decide +kernel
theorem dX5_howManyCouldOpen_1 : decode cX5_howManyCouldOpen 1 = .ok (.istore_n 2, 1) := by decide +kernel
theorem dX5_howManyCouldOpen_2 : decode cX5_howManyCouldOpen 2 = .ok (.iconst 0, 1) := by decide +kernel
theorem dX5_howManyCouldOpen_3 : decode cX5_howManyCouldOpen 3 = .ok (.istore_n 3, 1) := by decide +kernel
theorem dX5_howManyCouldOpen_4 : decode cX5_howManyCouldOpen 4 = .ok (.iload_n 3, 1) := by decide +kernel
theorem dX5_howManyCouldOpen_5 : decode cX5_howManyCouldOpen 5 = .ok (.bipush 10, 2) := by decide +kernel
theorem dX5_howManyCouldOpen_7 : decode cX5_howManyCouldOpen 7 = .ok (.if_icmp .ge 21, 3) := by decide +kernel
theorem dX5_howManyCouldOpen_10 : decode cX5_howManyCouldOpen 10 = .ok (.aload_n 0, 1) := by decide +kernel
theorem dX5_howManyCouldOpen_11 : decode cX5_howManyCouldOpen 11 = .ok (.iload_n 1, 1) := by decide +kernel
theorem dX5_howManyCouldOpen_12 : decode cX5_howManyCouldOpen 12 = .ok (.iload_n 3, 1) := by decide +kernel
theorem dX5_howManyCouldOpen_13 : decode cX5_howManyCouldOpen 13 = .ok (.invokevirtual 77, 3) := by decide +kernel
theorem dX5_howManyCouldOpen_16 : decode cX5_howManyCouldOpen 16 = .ok (.ifCond .ne 6, 3) := by decide +kernel
theorem dX5_howManyCouldOpen_19 : decode cX5_howManyCouldOpen 19 = .ok (.iinc 2 1, 3) := by decide +kernel
theorem dX5_howManyCouldOpen_22 : decode cX5_howManyCouldOpen 22 = .ok (.iinc 3 1, 3) := by decide +kernel
theorem dX5_howManyCouldOpen_25 : decode cX5_howManyCouldOpen 25 = .ok (.goto (-21), 3) := by decide +kernel
theorem dX5_howManyCouldOpen_28 : decode cX5_howManyCouldOpen 28 = .ok (.iload_n 2, 1) := by decide +kernel
theorem dX5_howManyCouldOpen_29 : decode cX5_howManyCouldOpen 29 = .ok (.ireturn, 1) := by decide +kernel
theorem dX5_servantOpens_0 : decode cX5_servantOpens 0 = .ok (.aload_n 0, 1) := by decide +kernel
theorem dX5_servantOpens_1 : decode cX5_servantOpens 1 = .ok (.aload_n 0, 1) := by decide +kernel
theorem dX5_servantOpens_2 : decode cX5_servantOpens 2 = .ok (.iload_n 1, 1) := by decide +kernel
theorem dX5_servantOpens_3 : decode cX5_servantOpens 3 = .ok (.invokevirtual 71, 3) := by decide +kernel
theorem dX5_servantOpens_6 : decode cX5_servantOpens 6 = .ok (.iload_n 1, 1) := by decide +kernel
theorem dX5_servantOpens_7 : decode cX5_servantOpens 7 = .ok (.invokevirtual 81, 3) := by decide +kernel
theorem dX5_servantOpens_10 : decode cX5_servantOpens 10 = .ok (.ireturn, 1) := by decide +kernel
theorem dX5_servantShuts_0 : decode cX5_servantShuts 0 = .ok (.aload_n 0, 1) := by decide +kernel
theorem dX5_servantShuts_1 : decode cX5_servantShuts 1 = .ok (.aload_n 0, 1) := by decide +kernel
theorem dX5_servantShuts_2 : decode cX5_servantShuts 2 = .ok (.iload_n 1, 1) := by decide +kernel
theorem dX5_servantShuts_3 : decode cX5_servantShuts 3 = .ok (.invokevirtual 74, 3) := by decide +kernel
theorem dX5_servantShuts_6 : decode cX5_servantShuts 6 = .ok (.iload_n 1, 1) := by decide +kernel
theorem dX5_servantShuts_7 : decode cX5_servantShuts 7 = .ok (.invokevirtual 84, 3) := by decide +kernel
theorem dX5_servantShuts_10 : decode cX5_servantShuts 10 = .ok (.ireturn, 1) := by decide +kernel
theorem dX5_opensAsGuest_0 : decode cX5_opensAsGuest 0 = .ok (.aload_n 0, 1) := by decide +kernel
theorem dX5_opensAsGuest_1 : decode cX5_opensAsGuest 1 = .ok (.aload_n 0, 1) := by decide +kernel
theorem dX5_opensAsGuest_2 : decode cX5_opensAsGuest 2 = .ok (.iload_n 1, 1) := by decide +kernel
theorem dX5_opensAsGuest_3 : decode cX5_opensAsGuest 3 = .ok (.iload_n 2, 1) := by decide +kernel
theorem dX5_opensAsGuest_4 : decode cX5_opensAsGuest 4 = .ok (.invokevirtual 77, 3) := by decide +kernel
theorem dX5_opensAsGuest_7 : decode cX5_opensAsGuest 7 = .ok (.iload_n 2, 1) := by decide +kernel
theorem dX5_opensAsGuest_8 : decode cX5_opensAsGuest 8 = .ok (.invokevirtual 81, 3) := by decide +kernel
theorem dX5_opensAsGuest_11 : decode cX5_opensAsGuest 11 = .ok (.ireturn, 1) := by decide +kernel
theorem dX5_shutsAsGuest_0 : decode cX5_shutsAsGuest 0 = .ok (.aload_n 0, 1) := by decide +kernel
theorem dX5_shutsAsGuest_1 : decode cX5_shutsAsGuest 1 = .ok (.aload_n 0, 1) := by decide +kernel
theorem dX5_shutsAsGuest_2 : decode cX5_shutsAsGuest 2 = .ok (.iload_n 1, 1) := by decide +kernel
theorem dX5_shutsAsGuest_3 : decode cX5_shutsAsGuest 3 = .ok (.iload_n 2, 1) := by decide +kernel
theorem dX5_shutsAsGuest_4 : decode cX5_shutsAsGuest 4 = .ok (.invokevirtual 87, 3) := by decide +kernel
theorem dX5_shutsAsGuest_7 : decode cX5_shutsAsGuest 7 = .ok (.iload_n 2, 1) := by decide +kernel
theorem dX5_shutsAsGuest_8 : decode cX5_shutsAsGuest 8 = .ok (.invokevirtual 84, 3) := by decide +kernel
theorem dX5_shutsAsGuest_11 : decode cX5_shutsAsGuest 11 = .ok (.ireturn, 1) := by decide +kernel
theorem dX5_walksThrough_0 : decode cX5_walksThrough 0 = .ok (.aload_n 0, 1) := by decide +kernel
theorem dX5_walksThrough_1 : decode cX5_walksThrough 1 = .ok (.iload_n 1, 1) := by decide +kernel
theorem dX5_walksThrough_2 : decode cX5_walksThrough 2 = .ok (.iload_n 2, 1) := by decide +kernel
theorem dX5_walksThrough_3 : decode cX5_walksThrough 3 = .ok (.invokevirtual 87, 3) := by decide +kernel
theorem dX5_walksThrough_6 : decode cX5_walksThrough 6 = .ok (.istore_n 3, 1) := by decide +kernel
theorem dX5_walksThrough_7 : decode cX5_walksThrough 7 = .ok (.iload_n 3, 1) := by decide +kernel
theorem dX5_walksThrough_8 : decode cX5_walksThrough 8 = .ok (.ifCond .eq 12, 3) := by decide +kernel
theorem dX5_walksThrough_11 : decode cX5_walksThrough 11 = .ok (.aload_n 0, 1) := by decide +kernel
theorem dX5_walksThrough_12 : decode cX5_walksThrough 12 = .ok (.getfield 28, 3) := by decide +kernel
theorem dX5_walksThrough_15 : decode cX5_walksThrough 15 = .ok (.iload_n 3, 1) := by decide +kernel
theorem dX5_walksThrough_16 : decode cX5_walksThrough 16 = .ok (.invokevirtual 90, 3) := by decide +kernel
theorem dX5_walksThrough_19 : decode cX5_walksThrough 19 = .ok (.ireturn, 1) := by decide +kernel
theorem dX5_walksThrough_20 : decode cX5_walksThrough 20 = .ok (.aload_n 0, 1) := by decide +kernel
theorem dX5_walksThrough_21 : decode cX5_walksThrough 21 = .ok (.getfield 21, 3) := by decide +kernel
theorem dX5_walksThrough_24 : decode cX5_walksThrough 24 = .ok (.getfield 58, 3) := by decide +kernel
theorem dX5_walksThrough_27 : decode cX5_walksThrough 27 = .ok (.iload_n 1, 1) := by decide +kernel
theorem dX5_walksThrough_28 : decode cX5_walksThrough 28 = .ok (.aload_n 0, 1) := by decide +kernel
theorem dX5_walksThrough_29 : decode cX5_walksThrough 29 = .ok (.getfield 12, 3) := by decide +kernel
theorem dX5_walksThrough_32 : decode cX5_walksThrough 32 = .ok (.iload_n 2, 1) := by decide +kernel
theorem dX5_walksThrough_33 : decode cX5_walksThrough 33 = .ok (.aload_n 0, 1) := by decide +kernel
theorem dX5_walksThrough_34 : decode cX5_walksThrough 34 = .ok (.getfield 21, 3) := by decide +kernel
theorem dX5_walksThrough_37 : decode cX5_walksThrough 37 = .ok (.getfield 58, 3) := by decide +kernel
theorem dX5_walksThrough_40 : decode cX5_walksThrough 40 = .ok (.iload_n 1, 1) := by decide +kernel
theorem dX5_walksThrough_41 : decode cX5_walksThrough 41 = .ok (.iaload, 1) := by decide +kernel
theorem dX5_walksThrough_42 : decode cX5_walksThrough 42 = .ok (.invokevirtual 93, 3) := by decide +kernel
theorem dX5_walksThrough_45 : decode cX5_walksThrough 45 = .ok (.iastore, 1) := by decide +kernel
theorem dX5_walksThrough_46 : decode cX5_walksThrough 46 = .ok (.aload_n 0, 1) := by decide +kernel
theorem dX5_walksThrough_47 : decode cX5_walksThrough 47 = .ok (.getfield 21, 3) := by decide +kernel
theorem dX5_walksThrough_50 : decode cX5_walksThrough 50 = .ok (.getfield 96, 3) := by decide +kernel
theorem dX5_walksThrough_53 : decode cX5_walksThrough 53 = .ok (.iload_n 1, 1) := by decide +kernel
theorem dX5_walksThrough_54 : decode cX5_walksThrough 54 = .ok (.dup2, 1) := by decide +kernel
theorem dX5_walksThrough_55 : decode cX5_walksThrough 55 = .ok (.iaload, 1) := by decide +kernel
theorem dX5_walksThrough_56 : decode cX5_walksThrough 56 = .ok (.iconst 1, 1) := by decide +kernel
theorem dX5_walksThrough_57 : decode cX5_walksThrough 57 = .ok (.iadd, 1) := by decide +kernel
theorem dX5_walksThrough_58 : decode cX5_walksThrough 58 = .ok (.iastore, 1) := by decide +kernel
theorem dX5_walksThrough_59 : decode cX5_walksThrough 59 = .ok (.bipush 10, 2) := by decide +kernel
theorem dX5_walksThrough_61 : decode cX5_walksThrough 61 = .ok (.aload_n 0, 1) := by decide +kernel
theorem dX5_walksThrough_62 : decode cX5_walksThrough 62 = .ok (.getfield 21, 3) := by decide +kernel
theorem dX5_walksThrough_65 : decode cX5_walksThrough 65 = .ok (.getfield 58, 3) := by decide +kernel
theorem dX5_walksThrough_68 : decode cX5_walksThrough 68 = .ok (.iload_n 1, 1) := by decide +kernel
theorem dX5_walksThrough_69 : decode cX5_walksThrough 69 = .ok (.iaload, 1) := by decide +kernel
theorem dX5_walksThrough_70 : decode cX5_walksThrough 70 = .ok (.iadd, 1) := by decide +kernel
theorem dX5_walksThrough_71 : decode cX5_walksThrough 71 = .ok (.ireturn, 1) := by decide +kernel
theorem dX5_laysCord_0 : decode cX5_laysCord 0 = .ok (.aload_n 0, 1) := by decide +kernel
theorem dX5_laysCord_1 : decode cX5_laysCord 1 = .ok (.iload_n 1, 1) := by decide +kernel
theorem dX5_laysCord_2 : decode cX5_laysCord 2 = .ok (.invokevirtual 50, 3) := by decide +kernel
theorem dX5_laysCord_5 : decode cX5_laysCord 5 = .ok (.ifCond .eq 26, 3) := by decide +kernel
theorem dX5_laysCord_8 : decode cX5_laysCord 8 = .ok (.iload_n 3, 1) := by decide +kernel
theorem dX5_laysCord_9 : decode cX5_laysCord 9 = .ok (.bipush 10, 2) := by decide +kernel
theorem dX5_laysCord_11 : decode cX5_laysCord 11 = .ok (.if_icmp .eq 20, 3) := by decide +kernel
theorem dX5_laysCord_14 : decode cX5_laysCord 14 = .ok (.aload_n 0, 1) := by decide +kernel
theorem dX5_laysCord_15 : decode cX5_laysCord 15 = .ok (.iload_n 3, 1) := by decide +kernel
theorem dX5_laysCord_16 : decode cX5_laysCord 16 = .ok (.invokevirtual 50, 3) := by decide +kernel
theorem dX5_laysCord_19 : decode cX5_laysCord 19 = .ok (.ifCond .eq 12, 3) := by decide +kernel
theorem dX5_laysCord_22 : decode cX5_laysCord 22 = .ok (.aload_n 0, 1) := by decide +kernel
theorem dX5_laysCord_23 : decode cX5_laysCord 23 = .ok (.getfield 28, 3) := by decide +kernel
theorem dX5_laysCord_26 : decode cX5_laysCord 26 = .ok (.iconst 4, 1) := by decide +kernel
theorem dX5_laysCord_27 : decode cX5_laysCord 27 = .ok (.invokevirtual 90, 3) := by decide +kernel
theorem dX5_laysCord_30 : decode cX5_laysCord 30 = .ok (.ireturn, 1) := by decide +kernel
theorem dX5_laysCord_31 : decode cX5_laysCord 31 = .ok (.aload_n 0, 1) := by decide +kernel
theorem dX5_laysCord_32 : decode cX5_laysCord 32 = .ok (.getfield 12, 3) := by decide +kernel
theorem dX5_laysCord_35 : decode cX5_laysCord 35 = .ok (.iload_n 1, 1) := by decide +kernel
theorem dX5_laysCord_36 : decode cX5_laysCord 36 = .ok (.iload_n 2, 1) := by decide +kernel
theorem dX5_laysCord_37 : decode cX5_laysCord 37 = .ok (.iload_n 3, 1) := by decide +kernel
theorem dX5_laysCord_38 : decode cX5_laysCord 38 = .ok (.invokevirtual 99, 3) := by decide +kernel
theorem dX5_laysCord_41 : decode cX5_laysCord 41 = .ok (.bipush 10, 2) := by decide +kernel
theorem dX5_laysCord_43 : decode cX5_laysCord 43 = .ok (.ireturn, 1) := by decide +kernel
theorem dX5_opensUnless_0 : decode cX5_opensUnless 0 = .ok (.iload_n 1, 1) := by decide +kernel
theorem dX5_opensUnless_1 : decode cX5_opensUnless 1 = .ok (.ifCond .eq 12, 3) := by decide +kernel
theorem dX5_opensUnless_4 : decode cX5_opensUnless 4 = .ok (.aload_n 0, 1) := by decide +kernel
theorem dX5_opensUnless_5 : decode cX5_opensUnless 5 = .ok (.getfield 28, 3) := by decide +kernel
theorem dX5_opensUnless_8 : decode cX5_opensUnless 8 = .ok (.iload_n 1, 1) := by decide +kernel
theorem dX5_opensUnless_9 : decode cX5_opensUnless 9 = .ok (.invokevirtual 90, 3) := by decide +kernel
theorem dX5_opensUnless_12 : decode cX5_opensUnless 12 = .ok (.ireturn, 1) := by decide +kernel
theorem dX5_opensUnless_13 : decode cX5_opensUnless 13 = .ok (.aload_n 0, 1) := by decide +kernel
theorem dX5_opensUnless_14 : decode cX5_opensUnless 14 = .ok (.getfield 12, 3) := by decide +kernel
theorem dX5_opensUnless_17 : decode cX5_opensUnless 17 = .ok (.aload_n 0, 1) := by decide +kernel
theorem dX5_opensUnless_18 : decode cX5_opensUnless 18 = .ok (.getfield 32, 3) := by decide +kernel
theorem dX5_opensUnless_21 : decode cX5_opensUnless 21 = .ok (.iload_n 2, 1) := by decide +kernel
theorem dX5_opensUnless_22 : decode cX5_opensUnless 22 = .ok (.invokevirtual 103, 3) := by decide +kernel
theorem dX5_opensUnless_25 : decode cX5_opensUnless 25 = .ok (.istore_n 3, 1) := by decide +kernel
theorem dX5_opensUnless_26 : decode cX5_opensUnless 26 = .ok (.aload_n 0, 1) := by decide +kernel
theorem dX5_opensUnless_27 : decode cX5_opensUnless 27 = .ok (.getfield 12, 3) := by decide +kernel
theorem dX5_opensUnless_30 : decode cX5_opensUnless 30 = .ok (.iload_n 3, 1) := by decide +kernel
theorem dX5_opensUnless_31 : decode cX5_opensUnless 31 = .ok (.iload_n 2, 1) := by decide +kernel
theorem dX5_opensUnless_32 : decode cX5_opensUnless 32 = .ok (.invokevirtual 106, 3) := by decide +kernel
theorem dX5_opensUnless_35 : decode cX5_opensUnless 35 = .ok (.istore 4, 2) := by decide +kernel
theorem dX5_opensUnless_37 : decode cX5_opensUnless 37 = .ok (.aload_n 0, 1) := by decide +kernel
theorem dX5_opensUnless_38 : decode cX5_opensUnless 38 = .ok (.getfield 32, 3) := by decide +kernel
theorem dX5_opensUnless_41 : decode cX5_opensUnless 41 = .ok (.iload_n 3, 1) := by decide +kernel
theorem dX5_opensUnless_42 : decode cX5_opensUnless 42 = .ok (.iconst (-1), 1) := by decide +kernel
theorem dX5_opensUnless_43 : decode cX5_opensUnless 43 = .ok (.ixor, 1) := by decide +kernel
theorem dX5_opensUnless_44 : decode cX5_opensUnless 44 = .ok (.iand, 1) := by decide +kernel
theorem dX5_opensUnless_45 : decode cX5_opensUnless 45 = .ok (.istore 5, 2) := by decide +kernel
theorem dX5_opensUnless_47 : decode cX5_opensUnless 47 = .ok (.iload_n 3, 1) := by decide +kernel
theorem dX5_opensUnless_48 : decode cX5_opensUnless 48 = .ok (.iload 4, 2) := by decide +kernel
theorem dX5_opensUnless_50 : decode cX5_opensUnless 50 = .ok (.iconst (-1), 1) := by decide +kernel
theorem dX5_opensUnless_51 : decode cX5_opensUnless 51 = .ok (.ixor, 1) := by decide +kernel
theorem dX5_opensUnless_52 : decode cX5_opensUnless 52 = .ok (.iand, 1) := by decide +kernel
theorem dX5_opensUnless_53 : decode cX5_opensUnless 53 = .ok (.istore 6, 2) := by decide +kernel
theorem dX5_opensUnless_55 : decode cX5_opensUnless 55 = .ok (.aload_n 0, 1) := by decide +kernel
theorem dX5_opensUnless_56 : decode cX5_opensUnless 56 = .ok (.getfield 28, 3) := by decide +kernel
theorem dX5_opensUnless_59 : decode cX5_opensUnless 59 = .ok (.iload_n 2, 1) := by decide +kernel
theorem dX5_opensUnless_60 : decode cX5_opensUnless 60 = .ok (.invokevirtual 109, 3) := by decide +kernel
theorem dX5_opensUnless_63 : decode cX5_opensUnless 63 = .ok (.aload_n 0, 1) := by decide +kernel
theorem dX5_opensUnless_64 : decode cX5_opensUnless 64 = .ok (.getfield 28, 3) := by decide +kernel
theorem dX5_opensUnless_67 : decode cX5_opensUnless 67 = .ok (.iload 5, 2) := by decide +kernel
theorem dX5_opensUnless_69 : decode cX5_opensUnless 69 = .ok (.iload 6, 2) := by decide +kernel
theorem dX5_opensUnless_71 : decode cX5_opensUnless 71 = .ok (.invokevirtual 113, 3) := by decide +kernel
theorem dX5_opensUnless_74 : decode cX5_opensUnless 74 = .ok (.aload_n 0, 1) := by decide +kernel
theorem dX5_opensUnless_75 : decode cX5_opensUnless 75 = .ok (.iload 4, 2) := by decide +kernel
theorem dX5_opensUnless_77 : decode cX5_opensUnless 77 = .ok (.putfield 32, 3) := by decide +kernel
theorem dX5_opensUnless_80 : decode cX5_opensUnless 80 = .ok (.bipush 10, 2) := by decide +kernel
theorem dX5_opensUnless_82 : decode cX5_opensUnless 82 = .ok (.iload 5, 2) := by decide +kernel
theorem dX5_opensUnless_84 : decode cX5_opensUnless 84 = .ok (.iload 6, 2) := by decide +kernel
theorem dX5_opensUnless_86 : decode cX5_opensUnless 86 = .ok (.ior, 1) := by decide +kernel
theorem dX5_opensUnless_87 : decode cX5_opensUnless 87 = .ok (.invokestatic 117, 3) := by decide +kernel
theorem dX5_opensUnless_90 : decode cX5_opensUnless 90 = .ok (.iadd, 1) := by decide +kernel
theorem dX5_opensUnless_91 : decode cX5_opensUnless 91 = .ok (.ireturn, 1) := by decide +kernel
theorem dX5_shutsUnless_0 : decode cX5_shutsUnless 0 = .ok (.iload_n 1, 1) := by decide +kernel
theorem dX5_shutsUnless_1 : decode cX5_shutsUnless 1 = .ok (.ifCond .eq 12, 3) := by decide +kernel
theorem dX5_shutsUnless_4 : decode cX5_shutsUnless 4 = .ok (.aload_n 0, 1) := by decide +kernel
theorem dX5_shutsUnless_5 : decode cX5_shutsUnless 5 = .ok (.getfield 28, 3) := by decide +kernel
theorem dX5_shutsUnless_8 : decode cX5_shutsUnless 8 = .ok (.iload_n 1, 1) := by decide +kernel
theorem dX5_shutsUnless_9 : decode cX5_shutsUnless 9 = .ok (.invokevirtual 90, 3) := by decide +kernel
theorem dX5_shutsUnless_12 : decode cX5_shutsUnless 12 = .ok (.ireturn, 1) := by decide +kernel
theorem dX5_shutsUnless_13 : decode cX5_shutsUnless 13 = .ok (.aload_n 0, 1) := by decide +kernel
theorem dX5_shutsUnless_14 : decode cX5_shutsUnless 14 = .ok (.getfield 28, 3) := by decide +kernel
theorem dX5_shutsUnless_17 : decode cX5_shutsUnless 17 = .ok (.iload_n 2, 1) := by decide +kernel
theorem dX5_shutsUnless_18 : decode cX5_shutsUnless 18 = .ok (.invokevirtual 122, 3) := by decide +kernel
theorem dX5_shutsUnless_21 : decode cX5_shutsUnless 21 = .ok (.aload_n 0, 1) := by decide +kernel
theorem dX5_shutsUnless_22 : decode cX5_shutsUnless 22 = .ok (.aload_n 0, 1) := by decide +kernel
theorem dX5_shutsUnless_23 : decode cX5_shutsUnless 23 = .ok (.getfield 32, 3) := by decide +kernel
theorem dX5_shutsUnless_26 : decode cX5_shutsUnless 26 = .ok (.iload_n 2, 1) := by decide +kernel
theorem dX5_shutsUnless_27 : decode cX5_shutsUnless 27 = .ok (.invokestatic 125, 3) := by decide +kernel
theorem dX5_shutsUnless_30 : decode cX5_shutsUnless 30 = .ok (.putfield 32, 3) := by decide +kernel
theorem dX5_shutsUnless_33 : decode cX5_shutsUnless 33 = .ok (.bipush 10, 2) := by decide +kernel
theorem dX5_shutsUnless_35 : decode cX5_shutsUnless 35 = .ok (.ireturn, 1) := by decide +kernel
theorem dX6_init_0 : decode cX6_init 0 = .ok (.aload_n 0, 1) := by decide +kernel
theorem dX6_init_1 : decode cX6_init 1 = .ok (.invokespecial 3, 3) := by decide +kernel
theorem dX6_init_4 : decode cX6_init 4 = .ok (.aload_n 0, 1) := by decide +kernel
theorem dX6_init_5 : decode cX6_init 5 = .ok (.iconst 0, 1) := by decide +kernel
theorem dX6_init_6 : decode cX6_init 6 = .ok (.putfield 9, 3) := by decide +kernel
theorem dX6_init_9 : decode cX6_init 9 = .ok (.aload_n 0, 1) := by decide +kernel
theorem dX6_init_10 : decode cX6_init 10 = .ok (.iconst 0, 1) := by decide +kernel
theorem dX6_init_11 : decode cX6_init 11 = .ok (.putfield 15, 3) := by decide +kernel
theorem dX6_init_14 : decode cX6_init 14 = .ok (.aload_n 0, 1) := by decide +kernel
theorem dX6_init_15 : decode cX6_init 15 = .ok (.iconst 0, 1) := by decide +kernel
theorem dX6_init_16 : decode cX6_init 16 = .ok (.putfield 18, 3) := by decide +kernel
theorem dX6_init_19 : decode cX6_init 19 = .ok (.return_, 1) := by decide +kernel
theorem dX6_forget_0 : decode cX6_forget 0 = .ok (.aload_n 0, 1) := by decide +kernel
theorem dX6_forget_1 : decode cX6_forget 1 = .ok (.iconst 0, 1) := by decide +kernel
theorem dX6_forget_2 : decode cX6_forget 2 = .ok (.putfield 9, 3) := by decide +kernel
theorem dX6_forget_5 : decode cX6_forget 5 = .ok (.return_, 1) := by decide +kernel
theorem dX6_remember_0 : decode cX6_remember 0 = .ok (.aload_n 0, 1) := by decide +kernel
theorem dX6_remember_1 : decode cX6_remember 1 = .ok (.iload_n 1, 1) := by decide +kernel
theorem dX6_remember_2 : decode cX6_remember 2 = .ok (.putfield 9, 3) := by decide +kernel
theorem dX6_remember_5 : decode cX6_remember 5 = .ok (.aload_n 0, 1) := by decide +kernel
theorem dX6_remember_6 : decode cX6_remember 6 = .ok (.iload_n 2, 1) := by decide +kernel
theorem dX6_remember_7 : decode cX6_remember 7 = .ok (.putfield 15, 3) := by decide +kernel
theorem dX6_remember_10 : decode cX6_remember 10 = .ok (.aload_n 0, 1) := by decide +kernel
theorem dX6_remember_11 : decode cX6_remember 11 = .ok (.iload_n 3, 1) := by decide +kernel
theorem dX6_remember_12 : decode cX6_remember 12 = .ok (.putfield 18, 3) := by decide +kernel
theorem dX6_remember_15 : decode cX6_remember 15 = .ok (.return_, 1) := by decide +kernel
theorem dX6_happened_0 : decode cX6_happened 0 = .ok (.aload_n 0, 1) := by decide +kernel
theorem dX6_happened_1 : decode cX6_happened 1 = .ok (.getfield 9, 3) := by decide +kernel
theorem dX6_happened_4 : decode cX6_happened 4 = .ok (.ifCond .eq 7, 3) := by decide +kernel
theorem dX6_happened_7 : decode cX6_happened 7 = .ok (.iconst 1, 1) := by decide +kernel
theorem dX6_happened_8 : decode cX6_happened 8 = .ok (.goto 4, 3) := by decide +kernel
theorem dX6_happened_11 : decode cX6_happened 11 = .ok (.iconst 0, 1) := by decide +kernel
theorem dX6_happened_12 : decode cX6_happened 12 = .ok (.ireturn, 1) := by decide +kernel
theorem dX7_init_0 : decode cX7_init 0 = .ok (.aload_n 0, 1) := by decide +kernel
theorem dX7_init_1 : decode cX7_init 1 = .ok (.invokespecial 3, 3) := by decide +kernel
theorem dX7_init_4 : decode cX7_init 4 = .ok (.aload_n 0, 1) := by decide +kernel
theorem dX7_init_5 : decode cX7_init 5 = .ok (.sipush 6144, 3) := by decide +kernel
theorem dX7_init_8 : decode cX7_init 8 = .ok (.newarray .int, 2) := by decide +kernel
theorem dX7_init_10 : decode cX7_init 10 = .ok (.putfield 9, 3) := by decide +kernel
theorem dX7_init_13 : decode cX7_init 13 = .ok (.aload_n 0, 1) := by decide +kernel
theorem dX7_init_14 : decode cX7_init 14 = .ok (.sipush 6144, 3) := by decide +kernel
theorem dX7_init_17 : decode cX7_init 17 = .ok (.newarray .int, 2) := by decide +kernel
theorem dX7_init_19 : decode cX7_init 19 = .ok (.putfield 15, 3) := by decide +kernel
theorem dX7_init_22 : decode cX7_init 22 = .ok (.aload_n 0, 1) := by decide +kernel
theorem dX7_init_23 : decode cX7_init 23 = .ok (.iconst 0, 1) := by decide +kernel
theorem dX7_init_24 : decode cX7_init 24 = .ok (.putfield 18, 3) := by decide +kernel
theorem dX7_init_27 : decode cX7_init 27 = .ok (.return_, 1) := by decide +kernel
theorem dX7_fromNowOn_0 : decode cX7_fromNowOn 0 = .ok (.aload_n 0, 1) := by decide +kernel
theorem dX7_fromNowOn_1 : decode cX7_fromNowOn 1 = .ok (.getfield 9, 3) := by decide +kernel
theorem dX7_fromNowOn_4 : decode cX7_fromNowOn 4 = .ok (.sipush 6144, 3) := by decide +kernel
theorem dX7_fromNowOn_7 : decode cX7_fromNowOn 7 = .ok (.invokestatic 22, 3) := by decide +kernel
theorem dX7_fromNowOn_10 : decode cX7_fromNowOn 10 = .ok (.aload_n 0, 1) := by decide +kernel
theorem dX7_fromNowOn_11 : decode cX7_fromNowOn 11 = .ok (.iconst 0, 1) := by decide +kernel
theorem dX7_fromNowOn_12 : decode cX7_fromNowOn 12 = .ok (.putfield 18, 3) := by decide +kernel
theorem dX7_fromNowOn_15 : decode cX7_fromNowOn 15 = .ok (.aload_n 0, 1) := by decide +kernel
theorem dX7_fromNowOn_16 : decode cX7_fromNowOn 16 = .ok (.iload_n 2, 1) := by decide +kernel
theorem dX7_fromNowOn_17 : decode cX7_fromNowOn 17 = .ok (.iconst 0, 1) := by decide +kernel
theorem dX7_fromNowOn_18 : decode cX7_fromNowOn 18 = .ok (.invokevirtual 28, 3) := by decide +kernel
theorem dX7_fromNowOn_21 : decode cX7_fromNowOn 21 = .ok (.iconst 0, 1) := by decide +kernel
theorem dX7_fromNowOn_22 : decode cX7_fromNowOn 22 = .ok (.istore 5, 2) := by decide +kernel
theorem dX7_fromNowOn_24 : decode cX7_fromNowOn 24 = .ok (.iload 5, 2) := by decide +kernel
theorem dX7_fromNowOn_26 : decode cX7_fromNowOn 26 = .ok (.aload_n 0, 1) := by decide +kernel
theorem dX7_fromNowOn_27 : decode cX7_fromNowOn 27 = .ok (.getfield 18, 3) := by decide +kernel
theorem dX7_fromNowOn_30 : decode cX7_fromNowOn 30 = .ok (.if_icmp .ge 52, 3) := by decide +kernel
theorem dX7_fromNowOn_33 : decode cX7_fromNowOn 33 = .ok (.iload 5, 2) := by decide +kernel
theorem dX7_fromNowOn_35 : decode cX7_fromNowOn 35 = .ok (.sipush 6144, 3) := by decide +kernel
theorem dX7_fromNowOn_38 : decode cX7_fromNowOn 38 = .ok (.if_icmp .ge 44, 3) := by decide +kernel
theorem dX7_fromNowOn_41 : decode cX7_fromNowOn 41 = .ok (.aload_n 0, 1) := by decide +kernel
theorem dX7_fromNowOn_42 : decode cX7_fromNowOn 42 = .ok (.getfield 15, 3) := by decide +kernel
theorem dX7_fromNowOn_45 : decode cX7_fromNowOn 45 = .ok (.iload 5, 2) := by decide +kernel
theorem dX7_fromNowOn_47 : decode cX7_fromNowOn 47 = .ok (.iaload, 1) := by decide +kernel
theorem dX7_fromNowOn_48 : decode cX7_fromNowOn 48 = .ok (.istore 6, 2) := by decide +kernel
theorem dX7_fromNowOn_50 : decode cX7_fromNowOn 50 = .ok (.iload 6, 2) := by decide +kernel
theorem dX7_fromNowOn_52 : decode cX7_fromNowOn 52 = .ok (.bipush 6, 2) := by decide +kernel
theorem dX7_fromNowOn_54 : decode cX7_fromNowOn 54 = .ok (.irem, 1) := by decide +kernel
theorem dX7_fromNowOn_55 : decode cX7_fromNowOn 55 = .ok (.iload 4, 2) := by decide +kernel
theorem dX7_fromNowOn_57 : decode cX7_fromNowOn 57 = .ok (.if_icmp .ne 11, 3) := by decide +kernel
theorem dX7_fromNowOn_60 : decode cX7_fromNowOn 60 = .ok (.aload_n 0, 1) := by decide +kernel
theorem dX7_fromNowOn_61 : decode cX7_fromNowOn 61 = .ok (.getfield 9, 3) := by decide +kernel
theorem dX7_fromNowOn_64 : decode cX7_fromNowOn 64 = .ok (.iload 6, 2) := by decide +kernel
theorem dX7_fromNowOn_66 : decode cX7_fromNowOn 66 = .ok (.iaload, 1) := by decide +kernel
theorem dX7_fromNowOn_67 : decode cX7_fromNowOn 67 = .ok (.ireturn, 1) := by decide +kernel
theorem dX7_fromNowOn_68 : decode cX7_fromNowOn 68 = .ok (.aload_n 0, 1) := by decide +kernel
theorem dX7_fromNowOn_69 : decode cX7_fromNowOn 69 = .ok (.aload_n 1, 1) := by decide +kernel
theorem dX7_fromNowOn_70 : decode cX7_fromNowOn 70 = .ok (.iload 6, 2) := by decide +kernel
theorem dX7_fromNowOn_72 : decode cX7_fromNowOn 72 = .ok (.iload_n 3, 1) := by decide +kernel
theorem dX7_fromNowOn_73 : decode cX7_fromNowOn 73 = .ok (.invokevirtual 32, 3) := by decide +kernel
theorem dX7_fromNowOn_76 : decode cX7_fromNowOn 76 = .ok (.iinc 5 1, 3) := by decide +kernel
theorem dX7_fromNowOn_79 : decode cX7_fromNowOn 79 = .ok (.goto (-55), 3) := by decide +kernel
theorem dX7_fromNowOn_82 : decode cX7_fromNowOn 82 = .ok (.bipush (-4), 2) := by decide +kernel
theorem dX7_fromNowOn_84 : decode cX7_fromNowOn 84 = .ok (.ireturn, 1) := by decide +kernel
theorem dX7_goOnFrom_0 : decode cX7_goOnFrom 0 = .ok (.iload_n 2, 1) := by decide +kernel
theorem dX7_goOnFrom_1 : decode cX7_goOnFrom 1 = .ok (.bipush 6, 2) := by decide +kernel
theorem dX7_goOnFrom_3 : decode cX7_goOnFrom 3 = .ok (.idiv, 1) := by decide +kernel
theorem dX7_goOnFrom_4 : decode cX7_goOnFrom 4 = .ok (.istore 4, 2) := by decide +kernel
theorem dX7_goOnFrom_6 : decode cX7_goOnFrom 6 = .ok (.iload_n 2, 1) := by decide +kernel
theorem dX7_goOnFrom_7 : decode cX7_goOnFrom 7 = .ok (.bipush 6, 2) := by decide +kernel
theorem dX7_goOnFrom_9 : decode cX7_goOnFrom 9 = .ok (.irem, 1) := by decide +kernel
theorem dX7_goOnFrom_10 : decode cX7_goOnFrom 10 = .ok (.istore 5, 2) := by decide +kernel
theorem dX7_goOnFrom_12 : decode cX7_goOnFrom 12 = .ok (.aload_n 0, 1) := by decide +kernel
theorem dX7_goOnFrom_13 : decode cX7_goOnFrom 13 = .ok (.getfield 9, 3) := by decide +kernel
theorem dX7_goOnFrom_16 : decode cX7_goOnFrom 16 = .ok (.iload_n 2, 1) := by decide +kernel
theorem dX7_goOnFrom_17 : decode cX7_goOnFrom 17 = .ok (.iaload, 1) := by decide +kernel
theorem dX7_goOnFrom_18 : decode cX7_goOnFrom 18 = .ok (.iconst 1, 1) := by decide +kernel
theorem dX7_goOnFrom_19 : decode cX7_goOnFrom 19 = .ok (.iadd, 1) := by decide +kernel
theorem dX7_goOnFrom_20 : decode cX7_goOnFrom 20 = .ok (.istore 6, 2) := by decide +kernel
theorem dX7_goOnFrom_22 : decode cX7_goOnFrom 22 = .ok (.aload_n 1, 1) := by decide +kernel
theorem dX7_goOnFrom_23 : decode cX7_goOnFrom 23 = .ok (.iload 5, 2) := by decide +kernel
theorem dX7_goOnFrom_25 : decode cX7_goOnFrom 25 = .ok (.invokevirtual 36, 3) := by decide +kernel
theorem dX7_goOnFrom_28 : decode cX7_goOnFrom 28 = .ok (.istore 7, 2) := by decide +kernel
theorem dX7_goOnFrom_30 : decode cX7_goOnFrom 30 = .ok (.iload 7, 2) := by decide +kernel
theorem dX7_goOnFrom_32 : decode cX7_goOnFrom 32 = .ok (.iload_n 3, 1) := by decide +kernel
theorem dX7_goOnFrom_33 : decode cX7_goOnFrom 33 = .ok (.iand, 1) := by decide +kernel
theorem dX7_goOnFrom_34 : decode cX7_goOnFrom 34 = .ok (.iload 4, 2) := by decide +kernel
theorem dX7_goOnFrom_36 : decode cX7_goOnFrom 36 = .ok (.iconst (-1), 1) := by decide +kernel
theorem dX7_goOnFrom_37 : decode cX7_goOnFrom 37 = .ok (.ixor, 1) := by decide +kernel
theorem dX7_goOnFrom_38 : decode cX7_goOnFrom 38 = .ok (.iand, 1) := by decide +kernel
theorem dX7_goOnFrom_39 : decode cX7_goOnFrom 39 = .ok (.aload_n 1, 1) := by decide +kernel
theorem dX7_goOnFrom_40 : decode cX7_goOnFrom 40 = .ok (.iload 4, 2) := by decide +kernel
theorem dX7_goOnFrom_42 : decode cX7_goOnFrom 42 = .ok (.invokevirtual 42, 3) := by decide +kernel
theorem dX7_goOnFrom_45 : decode cX7_goOnFrom 45 = .ok (.iconst (-1), 1) := by decide +kernel
theorem dX7_goOnFrom_46 : decode cX7_goOnFrom 46 = .ok (.ixor, 1) := by decide +kernel
theorem dX7_goOnFrom_47 : decode cX7_goOnFrom 47 = .ok (.iand, 1) := by decide +kernel
theorem dX7_goOnFrom_48 : decode cX7_goOnFrom 48 = .ok (.istore 8, 2) := by decide +kernel
theorem dX7_goOnFrom_50 : decode cX7_goOnFrom 50 = .ok (.iconst 0, 1) := by decide +kernel
theorem dX7_goOnFrom_51 : decode cX7_goOnFrom 51 = .ok (.istore 9, 2) := by decide +kernel
theorem dX7_goOnFrom_53 : decode cX7_goOnFrom 53 = .ok (.iload 9, 2) := by decide +kernel
theorem dX7_goOnFrom_55 : decode cX7_goOnFrom 55 = .ok (.bipush 10, 2) := by decide +kernel
theorem dX7_goOnFrom_57 : decode cX7_goOnFrom 57 = .ok (.if_icmp .ge 91, 3) := by decide +kernel
theorem dX7_goOnFrom_60 : decode cX7_goOnFrom 60 = .ok (.iload 7, 2) := by decide +kernel
theorem dX7_goOnFrom_62 : decode cX7_goOnFrom 62 = .ok (.iload 4, 2) := by decide +kernel
theorem dX7_goOnFrom_64 : decode cX7_goOnFrom 64 = .ok (.iand, 1) := by decide +kernel
theorem dX7_goOnFrom_65 : decode cX7_goOnFrom 65 = .ok (.iload 9, 2) := by decide +kernel
theorem dX7_goOnFrom_67 : decode cX7_goOnFrom 67 = .ok (.invokestatic 45, 3) := by decide +kernel
theorem dX7_goOnFrom_70 : decode cX7_goOnFrom 70 = .ok (.ifCond .eq 43, 3) := by decide +kernel
theorem dX7_goOnFrom_73 : decode cX7_goOnFrom 73 = .ok (.aload_n 0, 1) := by decide +kernel
theorem dX7_goOnFrom_74 : decode cX7_goOnFrom 74 = .ok (.iload 4, 2) := by decide +kernel
theorem dX7_goOnFrom_76 : decode cX7_goOnFrom 76 = .ok (.aload_n 1, 1) := by decide +kernel
theorem dX7_goOnFrom_77 : decode cX7_goOnFrom 77 = .ok (.iload 9, 2) := by decide +kernel
theorem dX7_goOnFrom_79 : decode cX7_goOnFrom 79 = .ok (.iload 5, 2) := by decide +kernel
theorem dX7_goOnFrom_81 : decode cX7_goOnFrom 81 = .ok (.invokevirtual 49, 3) := by decide +kernel
theorem dX7_goOnFrom_84 : decode cX7_goOnFrom 84 = .ok (.invokestatic 53, 3) := by decide +kernel
theorem dX7_goOnFrom_87 : decode cX7_goOnFrom 87 = .ok (.iload 6, 2) := by decide +kernel
theorem dX7_goOnFrom_89 : decode cX7_goOnFrom 89 = .ok (.invokevirtual 28, 3) := by decide +kernel
theorem dX7_goOnFrom_92 : decode cX7_goOnFrom 92 = .ok (.aload_n 0, 1) := by decide +kernel
theorem dX7_goOnFrom_93 : decode cX7_goOnFrom 93 = .ok (.iload 4, 2) := by decide +kernel
theorem dX7_goOnFrom_95 : decode cX7_goOnFrom 95 = .ok (.iload 9, 2) := by decide +kernel
theorem dX7_goOnFrom_97 : decode cX7_goOnFrom 97 = .ok (.invokestatic 56, 3) := by decide +kernel
theorem dX7_goOnFrom_100 : decode cX7_goOnFrom 100 = .ok (.iload 5, 2) := by decide +kernel
theorem dX7_goOnFrom_102 : decode cX7_goOnFrom 102 = .ok (.invokestatic 53, 3) := by decide +kernel
theorem dX7_goOnFrom_105 : decode cX7_goOnFrom 105 = .ok (.iload 6, 2) := by decide +kernel
theorem dX7_goOnFrom_107 : decode cX7_goOnFrom 107 = .ok (.invokevirtual 28, 3) := by decide +kernel
theorem dX7_goOnFrom_110 : decode cX7_goOnFrom 110 = .ok (.goto 32, 3) := by decide +kernel
theorem dX7_goOnFrom_113 : decode cX7_goOnFrom 113 = .ok (.iload 8, 2) := by decide +kernel
theorem dX7_goOnFrom_115 : decode cX7_goOnFrom 115 = .ok (.iload 9, 2) := by decide +kernel
theorem dX7_goOnFrom_117 : decode cX7_goOnFrom 117 = .ok (.invokestatic 45, 3) := by decide +kernel
theorem dX7_goOnFrom_120 : decode cX7_goOnFrom 120 = .ok (.ifCond .eq 22, 3) := by decide +kernel
theorem dX7_goOnFrom_123 : decode cX7_goOnFrom 123 = .ok (.aload_n 0, 1) := by decide +kernel
theorem dX7_goOnFrom_124 : decode cX7_goOnFrom 124 = .ok (.aload_n 1, 1) := by decide +kernel
theorem dX7_goOnFrom_125 : decode cX7_goOnFrom 125 = .ok (.iload 4, 2) := by decide +kernel
theorem dX7_goOnFrom_127 : decode cX7_goOnFrom 127 = .ok (.iload 9, 2) := by decide +kernel
theorem dX7_goOnFrom_129 : decode cX7_goOnFrom 129 = .ok (.invokevirtual 59, 3) := by decide +kernel
theorem dX7_goOnFrom_132 : decode cX7_goOnFrom 132 = .ok (.iload 5, 2) := by decide +kernel
theorem dX7_goOnFrom_134 : decode cX7_goOnFrom 134 = .ok (.invokestatic 53, 3) := by decide +kernel
theorem dX7_goOnFrom_137 : decode cX7_goOnFrom 137 = .ok (.iload 6, 2) := by decide +kernel
theorem dX7_goOnFrom_139 : decode cX7_goOnFrom 139 = .ok (.invokevirtual 28, 3) := by decide +kernel
theorem dX7_goOnFrom_142 : decode cX7_goOnFrom 142 = .ok (.iinc 9 1, 3) := by decide +kernel
theorem dX7_goOnFrom_145 : decode cX7_goOnFrom 145 = .ok (.goto (-92), 3) := by decide +kernel
theorem dX7_goOnFrom_148 : decode cX7_goOnFrom 148 = .ok (.return_, 1) := by decide +kernel
theorem dX7_reach_0 : decode cX7_reach 0 = .ok (.aload_n 0, 1) := by decide +kernel
theorem dX7_reach_1 : decode cX7_reach 1 = .ok (.getfield 9, 3) := by decide +kernel
theorem dX7_reach_4 : decode cX7_reach 4 = .ok (.iload_n 1, 1) := by decide +kernel
theorem dX7_reach_5 : decode cX7_reach 5 = .ok (.iaload, 1) := by decide +kernel
theorem dX7_reach_6 : decode cX7_reach 6 = .ok (.sipush 6144, 3) := by decide +kernel
theorem dX7_reach_9 : decode cX7_reach 9 = .ok (.if_icmp .ne 40, 3) := by decide +kernel
theorem dX7_reach_12 : decode cX7_reach 12 = .ok (.aload_n 0, 1) := by decide +kernel
theorem dX7_reach_13 : decode cX7_reach 13 = .ok (.getfield 18, 3) := by decide +kernel
theorem dX7_reach_16 : decode cX7_reach 16 = .ok (.sipush 6144, 3) := by decide +kernel
theorem dX7_reach_19 : decode cX7_reach 19 = .ok (.if_icmp .ge 30, 3) := by decide +kernel
theorem dX7_reach_22 : decode cX7_reach 22 = .ok (.aload_n 0, 1) := by decide +kernel
theorem dX7_reach_23 : decode cX7_reach 23 = .ok (.getfield 9, 3) := by decide +kernel
theorem dX7_reach_26 : decode cX7_reach 26 = .ok (.iload_n 1, 1) := by decide +kernel
theorem dX7_reach_27 : decode cX7_reach 27 = .ok (.iload_n 2, 1) := by decide +kernel
theorem dX7_reach_28 : decode cX7_reach 28 = .ok (.iastore, 1) := by decide +kernel
theorem dX7_reach_29 : decode cX7_reach 29 = .ok (.aload_n 0, 1) := by decide +kernel
theorem dX7_reach_30 : decode cX7_reach 30 = .ok (.getfield 15, 3) := by decide +kernel
theorem dX7_reach_33 : decode cX7_reach 33 = .ok (.aload_n 0, 1) := by decide +kernel
theorem dX7_reach_34 : decode cX7_reach 34 = .ok (.getfield 18, 3) := by decide +kernel
theorem dX7_reach_37 : decode cX7_reach 37 = .ok (.iload_n 1, 1) := by decide +kernel
theorem dX7_reach_38 : decode cX7_reach 38 = .ok (.iastore, 1) := by decide +kernel
theorem dX7_reach_39 : decode cX7_reach 39 = .ok (.aload_n 0, 1) := by decide +kernel
theorem dX7_reach_40 : decode cX7_reach 40 = .ok (.dup, 1) := by decide +kernel
theorem dX7_reach_41 : decode cX7_reach 41 = .ok (.getfield 18, 3) := by decide +kernel
theorem dX7_reach_44 : decode cX7_reach 44 = .ok (.iconst 1, 1) := by decide +kernel
theorem dX7_reach_45 : decode cX7_reach 45 = .ok (.iadd, 1) := by decide +kernel
theorem dX7_reach_46 : decode cX7_reach 46 = .ok (.putfield 18, 3) := by decide +kernel
theorem dX7_reach_49 : decode cX7_reach 49 = .ok (.return_, 1) := by decide +kernel
theorem dX7_fromHallBack_0 : decode cX7_fromHallBack 0 = .ok (.aload_n 0, 1) := by decide +kernel
theorem dX7_fromHallBack_1 : decode cX7_fromHallBack 1 = .ok (.getfield 9, 3) := by decide +kernel
theorem dX7_fromHallBack_4 : decode cX7_fromHallBack 4 = .ok (.sipush 6144, 3) := by decide +kernel
theorem dX7_fromHallBack_7 : decode cX7_fromHallBack 7 = .ok (.invokestatic 22, 3) := by decide +kernel
theorem dX7_fromHallBack_10 : decode cX7_fromHallBack 10 = .ok (.aload_n 0, 1) := by decide +kernel
theorem dX7_fromHallBack_11 : decode cX7_fromHallBack 11 = .ok (.aload_n 1, 1) := by decide +kernel
theorem dX7_fromHallBack_12 : decode cX7_fromHallBack 12 = .ok (.iload_n 2, 1) := by decide +kernel
theorem dX7_fromHallBack_13 : decode cX7_fromHallBack 13 = .ok (.bipush 6, 2) := by decide +kernel
theorem dX7_fromHallBack_15 : decode cX7_fromHallBack 15 = .ok (.idiv, 1) := by decide +kernel
theorem dX7_fromHallBack_16 : decode cX7_fromHallBack 16 = .ok (.iload_n 3, 1) := by decide +kernel
theorem dX7_fromHallBack_17 : decode cX7_fromHallBack 17 = .ok (.ior, 1) := by decide +kernel
theorem dX7_fromHallBack_18 : decode cX7_fromHallBack 18 = .ok (.invokevirtual 62, 3) := by decide +kernel
theorem dX7_fromHallBack_21 : decode cX7_fromHallBack 21 = .ok (.iconst 0, 1) := by decide +kernel
theorem dX7_fromHallBack_22 : decode cX7_fromHallBack 22 = .ok (.istore 5, 2) := by decide +kernel
theorem dX7_fromHallBack_24 : decode cX7_fromHallBack 24 = .ok (.iload 5, 2) := by decide +kernel
theorem dX7_fromHallBack_26 : decode cX7_fromHallBack 26 = .ok (.aload_n 0, 1) := by decide +kernel
theorem dX7_fromHallBack_27 : decode cX7_fromHallBack 27 = .ok (.getfield 18, 3) := by decide +kernel
theorem dX7_fromHallBack_30 : decode cX7_fromHallBack 30 = .ok (.if_icmp .ge 35, 3) := by decide +kernel
theorem dX7_fromHallBack_33 : decode cX7_fromHallBack 33 = .ok (.iload 5, 2) := by decide +kernel
theorem dX7_fromHallBack_35 : decode cX7_fromHallBack 35 = .ok (.sipush 6144, 3) := by decide +kernel
theorem dX7_fromHallBack_38 : decode cX7_fromHallBack 38 = .ok (.if_icmp .ge 27, 3) := by decide +kernel
theorem dX7_fromHallBack_41 : decode cX7_fromHallBack 41 = .ok (.aload_n 0, 1) := by decide +kernel
theorem dX7_fromHallBack_42 : decode cX7_fromHallBack 42 = .ok (.getfield 9, 3) := by decide +kernel
theorem dX7_fromHallBack_45 : decode cX7_fromHallBack 45 = .ok (.aload_n 0, 1) := by decide +kernel
theorem dX7_fromHallBack_46 : decode cX7_fromHallBack 46 = .ok (.getfield 15, 3) := by decide +kernel
theorem dX7_fromHallBack_49 : decode cX7_fromHallBack 49 = .ok (.iload 5, 2) := by decide +kernel
theorem dX7_fromHallBack_51 : decode cX7_fromHallBack 51 = .ok (.iaload, 1) := by decide +kernel
theorem dX7_fromHallBack_52 : decode cX7_fromHallBack 52 = .ok (.iload 4, 2) := by decide +kernel
theorem dX7_fromHallBack_54 : decode cX7_fromHallBack 54 = .ok (.invokestatic 53, 3) := by decide +kernel
theorem dX7_fromHallBack_57 : decode cX7_fromHallBack 57 = .ok (.iconst 0, 1) := by decide +kernel
theorem dX7_fromHallBack_58 : decode cX7_fromHallBack 58 = .ok (.iastore, 1) := by decide +kernel
theorem dX7_fromHallBack_59 : decode cX7_fromHallBack 59 = .ok (.iinc 5 1, 3) := by decide +kernel
theorem dX7_fromHallBack_62 : decode cX7_fromHallBack 62 = .ok (.goto (-38), 3) := by decide +kernel
theorem dX7_fromHallBack_65 : decode cX7_fromHallBack 65 = .ok (.iconst 1, 1) := by decide +kernel
theorem dX7_fromHallBack_66 : decode cX7_fromHallBack 66 = .ok (.istore 5, 2) := by decide +kernel
theorem dX7_fromHallBack_68 : decode cX7_fromHallBack 68 = .ok (.iconst 0, 1) := by decide +kernel
theorem dX7_fromHallBack_69 : decode cX7_fromHallBack 69 = .ok (.istore 6, 2) := by decide +kernel
theorem dX7_fromHallBack_71 : decode cX7_fromHallBack 71 = .ok (.iload 6, 2) := by decide +kernel
theorem dX7_fromHallBack_73 : decode cX7_fromHallBack 73 = .ok (.sipush 6144, 3) := by decide +kernel
theorem dX7_fromHallBack_76 : decode cX7_fromHallBack 76 = .ok (.if_icmp .ge 61, 3) := by decide +kernel
theorem dX7_fromHallBack_79 : decode cX7_fromHallBack 79 = .ok (.iload 5, 2) := by decide +kernel
theorem dX7_fromHallBack_81 : decode cX7_fromHallBack 81 = .ok (.ifCond .le 56, 3) := by decide +kernel
theorem dX7_fromHallBack_84 : decode cX7_fromHallBack 84 = .ok (.iconst 0, 1) := by decide +kernel
theorem dX7_fromHallBack_85 : decode cX7_fromHallBack 85 = .ok (.istore 5, 2) := by decide +kernel
theorem dX7_fromHallBack_87 : decode cX7_fromHallBack 87 = .ok (.iconst 0, 1) := by decide +kernel
theorem dX7_fromHallBack_88 : decode cX7_fromHallBack 88 = .ok (.istore 7, 2) := by decide +kernel
theorem dX7_fromHallBack_90 : decode cX7_fromHallBack 90 = .ok (.iload 7, 2) := by decide +kernel
theorem dX7_fromHallBack_92 : decode cX7_fromHallBack 92 = .ok (.aload_n 0, 1) := by decide +kernel
theorem dX7_fromHallBack_93 : decode cX7_fromHallBack 93 = .ok (.getfield 18, 3) := by decide +kernel
theorem dX7_fromHallBack_96 : decode cX7_fromHallBack 96 = .ok (.if_icmp .ge 35, 3) := by decide +kernel
theorem dX7_fromHallBack_99 : decode cX7_fromHallBack 99 = .ok (.iload 7, 2) := by decide +kernel
theorem dX7_fromHallBack_101 : decode cX7_fromHallBack 101 = .ok (.sipush 6144, 3) := by decide +kernel
theorem dX7_fromHallBack_104 : decode cX7_fromHallBack 104 = .ok (.if_icmp .ge 27, 3) := by decide +kernel
theorem dX7_fromHallBack_107 : decode cX7_fromHallBack 107 = .ok (.iload 5, 2) := by decide +kernel
theorem dX7_fromHallBack_109 : decode cX7_fromHallBack 109 = .ok (.aload_n 0, 1) := by decide +kernel
theorem dX7_fromHallBack_110 : decode cX7_fromHallBack 110 = .ok (.aload_n 1, 1) := by decide +kernel
theorem dX7_fromHallBack_111 : decode cX7_fromHallBack 111 = .ok (.aload_n 0, 1) := by decide +kernel
theorem dX7_fromHallBack_112 : decode cX7_fromHallBack 112 = .ok (.getfield 15, 3) := by decide +kernel
theorem dX7_fromHallBack_115 : decode cX7_fromHallBack 115 = .ok (.iload 7, 2) := by decide +kernel
theorem dX7_fromHallBack_117 : decode cX7_fromHallBack 117 = .ok (.iaload, 1) := by decide +kernel
theorem dX7_fromHallBack_118 : decode cX7_fromHallBack 118 = .ok (.iload_n 3, 1) := by decide +kernel
theorem dX7_fromHallBack_119 : decode cX7_fromHallBack 119 = .ok (.invokevirtual 66, 3) := by decide +kernel
theorem dX7_fromHallBack_122 : decode cX7_fromHallBack 122 = .ok (.iadd, 1) := by decide +kernel
theorem dX7_fromHallBack_123 : decode cX7_fromHallBack 123 = .ok (.istore 5, 2) := by decide +kernel
theorem dX7_fromHallBack_125 : decode cX7_fromHallBack 125 = .ok (.iinc 7 1, 3) := by decide +kernel
theorem dX7_fromHallBack_128 : decode cX7_fromHallBack 128 = .ok (.goto (-38), 3) := by decide +kernel
theorem dX7_fromHallBack_131 : decode cX7_fromHallBack 131 = .ok (.iinc 6 1, 3) := by decide +kernel
theorem dX7_fromHallBack_134 : decode cX7_fromHallBack 134 = .ok (.goto (-63), 3) := by decide +kernel
theorem dX7_fromHallBack_137 : decode cX7_fromHallBack 137 = .ok (.aload_n 0, 1) := by decide +kernel
theorem dX7_fromHallBack_138 : decode cX7_fromHallBack 138 = .ok (.getfield 9, 3) := by decide +kernel
theorem dX7_fromHallBack_141 : decode cX7_fromHallBack 141 = .ok (.iload_n 2, 1) := by decide +kernel
theorem dX7_fromHallBack_142 : decode cX7_fromHallBack 142 = .ok (.iaload, 1) := by decide +kernel
theorem dX7_fromHallBack_143 : decode cX7_fromHallBack 143 = .ok (.sipush 6144, 3) := by decide +kernel
theorem dX7_fromHallBack_146 : decode cX7_fromHallBack 146 = .ok (.if_icmp .ne 8, 3) := by decide +kernel
theorem dX7_fromHallBack_149 : decode cX7_fromHallBack 149 = .ok (.bipush (-4), 2) := by decide +kernel
theorem dX7_fromHallBack_151 : decode cX7_fromHallBack 151 = .ok (.goto 9, 3) := by decide +kernel
theorem dX7_fromHallBack_154 : decode cX7_fromHallBack 154 = .ok (.aload_n 0, 1) := by decide +kernel
theorem dX7_fromHallBack_155 : decode cX7_fromHallBack 155 = .ok (.getfield 9, 3) := by decide +kernel
theorem dX7_fromHallBack_158 : decode cX7_fromHallBack 158 = .ok (.iload_n 2, 1) := by decide +kernel
theorem dX7_fromHallBack_159 : decode cX7_fromHallBack 159 = .ok (.iaload, 1) := by decide +kernel
theorem dX7_fromHallBack_160 : decode cX7_fromHallBack 160 = .ok (.ireturn, 1) := by decide +kernel
theorem dX7_lineUpSets_0 : decode cX7_lineUpSets 0 = .ok (.aload_n 0, 1) := by decide +kernel
theorem dX7_lineUpSets_1 : decode cX7_lineUpSets 1 = .ok (.iconst 0, 1) := by decide +kernel
theorem dX7_lineUpSets_2 : decode cX7_lineUpSets 2 = .ok (.putfield 18, 3) := by decide +kernel
theorem dX7_lineUpSets_5 : decode cX7_lineUpSets 5 = .ok (.iconst 0, 1) := by decide +kernel
theorem dX7_lineUpSets_6 : decode cX7_lineUpSets 6 = .ok (.istore_n 3, 1) := by decide +kernel
theorem dX7_lineUpSets_7 : decode cX7_lineUpSets 7 = .ok (.iload_n 3, 1) := by decide +kernel
theorem dX7_lineUpSets_8 : decode cX7_lineUpSets 8 = .ok (.sipush 1023, 3) := by decide +kernel
theorem dX7_lineUpSets_11 : decode cX7_lineUpSets 11 = .ok (.if_icmp .gt 69, 3) := by decide +kernel
theorem dX7_lineUpSets_14 : decode cX7_lineUpSets 14 = .ok (.aload_n 0, 1) := by decide +kernel
theorem dX7_lineUpSets_15 : decode cX7_lineUpSets 15 = .ok (.getfield 18, 3) := by decide +kernel
theorem dX7_lineUpSets_18 : decode cX7_lineUpSets 18 = .ok (.sipush 6144, 3) := by decide +kernel
theorem dX7_lineUpSets_21 : decode cX7_lineUpSets 21 = .ok (.if_icmp .ge 59, 3) := by decide +kernel
theorem dX7_lineUpSets_24 : decode cX7_lineUpSets 24 = .ok (.iload_n 3, 1) := by decide +kernel
theorem dX7_lineUpSets_25 : decode cX7_lineUpSets 25 = .ok (.iload_n 2, 1) := by decide +kernel
theorem dX7_lineUpSets_26 : decode cX7_lineUpSets 26 = .ok (.iconst (-1), 1) := by decide +kernel
theorem dX7_lineUpSets_27 : decode cX7_lineUpSets 27 = .ok (.ixor, 1) := by decide +kernel
theorem dX7_lineUpSets_28 : decode cX7_lineUpSets 28 = .ok (.iand, 1) := by decide +kernel
theorem dX7_lineUpSets_29 : decode cX7_lineUpSets 29 = .ok (.ifCond .ne 7, 3) := by decide +kernel
theorem dX7_lineUpSets_32 : decode cX7_lineUpSets 32 = .ok (.iconst 1, 1) := by decide +kernel
theorem dX7_lineUpSets_33 : decode cX7_lineUpSets 33 = .ok (.goto 4, 3) := by decide +kernel
theorem dX7_lineUpSets_36 : decode cX7_lineUpSets 36 = .ok (.iconst 0, 1) := by decide +kernel
theorem dX7_lineUpSets_37 : decode cX7_lineUpSets 37 = .ok (.istore 4, 2) := by decide +kernel
theorem dX7_lineUpSets_39 : decode cX7_lineUpSets 39 = .ok (.iload 4, 2) := by decide +kernel
theorem dX7_lineUpSets_41 : decode cX7_lineUpSets 41 = .ok (.ifCond .eq 33, 3) := by decide +kernel
theorem dX7_lineUpSets_44 : decode cX7_lineUpSets 44 = .ok (.aload_n 1, 1) := by decide +kernel
theorem dX7_lineUpSets_45 : decode cX7_lineUpSets 45 = .ok (.iload_n 3, 1) := by decide +kernel
theorem dX7_lineUpSets_46 : decode cX7_lineUpSets 46 = .ok (.invokevirtual 42, 3) := by decide +kernel
theorem dX7_lineUpSets_49 : decode cX7_lineUpSets 49 = .ok (.iload_n 3, 1) := by decide +kernel
theorem dX7_lineUpSets_50 : decode cX7_lineUpSets 50 = .ok (.iand, 1) := by decide +kernel
theorem dX7_lineUpSets_51 : decode cX7_lineUpSets 51 = .ok (.ifCond .ne 23, 3) := by decide +kernel
theorem dX7_lineUpSets_54 : decode cX7_lineUpSets 54 = .ok (.aload_n 0, 1) := by decide +kernel
theorem dX7_lineUpSets_55 : decode cX7_lineUpSets 55 = .ok (.getfield 15, 3) := by decide +kernel
theorem dX7_lineUpSets_58 : decode cX7_lineUpSets 58 = .ok (.aload_n 0, 1) := by decide +kernel
theorem dX7_lineUpSets_59 : decode cX7_lineUpSets 59 = .ok (.getfield 18, 3) := by decide +kernel
theorem dX7_lineUpSets_62 : decode cX7_lineUpSets 62 = .ok (.iload_n 3, 1) := by decide +kernel
theorem dX7_lineUpSets_63 : decode cX7_lineUpSets 63 = .ok (.iastore, 1) := by decide +kernel
theorem dX7_lineUpSets_64 : decode cX7_lineUpSets 64 = .ok (.aload_n 0, 1) := by decide +kernel
theorem dX7_lineUpSets_65 : decode cX7_lineUpSets 65 = .ok (.dup, 1) := by decide +kernel
theorem dX7_lineUpSets_66 : decode cX7_lineUpSets 66 = .ok (.getfield 18, 3) := by decide +kernel
theorem dX7_lineUpSets_69 : decode cX7_lineUpSets 69 = .ok (.iconst 1, 1) := by decide +kernel
theorem dX7_lineUpSets_70 : decode cX7_lineUpSets 70 = .ok (.iadd, 1) := by decide +kernel
theorem dX7_lineUpSets_71 : decode cX7_lineUpSets 71 = .ok (.putfield 18, 3) := by decide +kernel
theorem dX7_lineUpSets_74 : decode cX7_lineUpSets 74 = .ok (.iinc 3 1, 3) := by decide +kernel
theorem dX7_lineUpSets_77 : decode cX7_lineUpSets 77 = .ok (.goto (-70), 3) := by decide +kernel
theorem dX7_lineUpSets_80 : decode cX7_lineUpSets 80 = .ok (.return_, 1) := by decide +kernel
theorem dX7_lessenAll_0 : decode cX7_lessenAll 0 = .ok (.iload_n 3, 1) := by decide +kernel
theorem dX7_lessenAll_1 : decode cX7_lessenAll 1 = .ok (.iload_n 2, 1) := by decide +kernel
theorem dX7_lessenAll_2 : decode cX7_lessenAll 2 = .ok (.iconst (-1), 1) := by decide +kernel
theorem dX7_lessenAll_3 : decode cX7_lessenAll 3 = .ok (.ixor, 1) := by decide +kernel
theorem dX7_lessenAll_4 : decode cX7_lessenAll 4 = .ok (.iand, 1) := by decide +kernel
theorem dX7_lessenAll_5 : decode cX7_lessenAll 5 = .ok (.aload_n 1, 1) := by decide +kernel
theorem dX7_lessenAll_6 : decode cX7_lessenAll 6 = .ok (.iload_n 2, 1) := by decide +kernel
theorem dX7_lessenAll_7 : decode cX7_lessenAll 7 = .ok (.invokevirtual 42, 3) := by decide +kernel
theorem dX7_lessenAll_10 : decode cX7_lessenAll 10 = .ok (.iconst (-1), 1) := by decide +kernel
theorem dX7_lessenAll_11 : decode cX7_lessenAll 11 = .ok (.ixor, 1) := by decide +kernel
theorem dX7_lessenAll_12 : decode cX7_lessenAll 12 = .ok (.iand, 1) := by decide +kernel
theorem dX7_lessenAll_13 : decode cX7_lessenAll 13 = .ok (.istore 4, 2) := by decide +kernel
theorem dX7_lessenAll_15 : decode cX7_lessenAll 15 = .ok (.iconst 0, 1) := by decide +kernel
theorem dX7_lessenAll_16 : decode cX7_lessenAll 16 = .ok (.istore 5, 2) := by decide +kernel
theorem dX7_lessenAll_18 : decode cX7_lessenAll 18 = .ok (.iconst 0, 1) := by decide +kernel
theorem dX7_lessenAll_19 : decode cX7_lessenAll 19 = .ok (.istore 6, 2) := by decide +kernel
theorem dX7_lessenAll_21 : decode cX7_lessenAll 21 = .ok (.iload 6, 2) := by decide +kernel
theorem dX7_lessenAll_23 : decode cX7_lessenAll 23 = .ok (.bipush 10, 2) := by decide +kernel
theorem dX7_lessenAll_25 : decode cX7_lessenAll 25 = .ok (.if_icmp .ge 153, 3) := by decide +kernel
theorem dX7_lessenAll_28 : decode cX7_lessenAll 28 = .ok (.aload_n 1, 1) := by decide +kernel
theorem dX7_lessenAll_29 : decode cX7_lessenAll 29 = .ok (.iload 6, 2) := by decide +kernel
theorem dX7_lessenAll_31 : decode cX7_lessenAll 31 = .ok (.invokevirtual 70, 3) := by decide +kernel
theorem dX7_lessenAll_34 : decode cX7_lessenAll 34 = .ok (.istore 7, 2) := by decide +kernel
theorem dX7_lessenAll_36 : decode cX7_lessenAll 36 = .ok (.aload_n 1, 1) := by decide +kernel
theorem dX7_lessenAll_37 : decode cX7_lessenAll 37 = .ok (.iload 6, 2) := by decide +kernel
theorem dX7_lessenAll_39 : decode cX7_lessenAll 39 = .ok (.invokevirtual 73, 3) := by decide +kernel
theorem dX7_lessenAll_42 : decode cX7_lessenAll 42 = .ok (.istore 8, 2) := by decide +kernel
theorem dX7_lessenAll_44 : decode cX7_lessenAll 44 = .ok (.iload_n 2, 1) := by decide +kernel
theorem dX7_lessenAll_45 : decode cX7_lessenAll 45 = .ok (.istore 9, 2) := by decide +kernel
theorem dX7_lessenAll_47 : decode cX7_lessenAll 47 = .ok (.iload_n 2, 1) := by decide +kernel
theorem dX7_lessenAll_48 : decode cX7_lessenAll 48 = .ok (.iload 6, 2) := by decide +kernel
theorem dX7_lessenAll_50 : decode cX7_lessenAll 50 = .ok (.invokestatic 45, 3) := by decide +kernel
theorem dX7_lessenAll_53 : decode cX7_lessenAll 53 = .ok (.ifCond .eq 56, 3) := by decide +kernel
theorem dX7_lessenAll_56 : decode cX7_lessenAll 56 = .ok (.iload 5, 2) := by decide +kernel
theorem dX7_lessenAll_58 : decode cX7_lessenAll 58 = .ok (.aload_n 0, 1) := by decide +kernel
theorem dX7_lessenAll_59 : decode cX7_lessenAll 59 = .ok (.iload_n 2, 1) := by decide +kernel
theorem dX7_lessenAll_60 : decode cX7_lessenAll 60 = .ok (.iload 7, 2) := by decide +kernel
theorem dX7_lessenAll_62 : decode cX7_lessenAll 62 = .ok (.invokestatic 53, 3) := by decide +kernel
theorem dX7_lessenAll_65 : decode cX7_lessenAll 65 = .ok (.iload_n 2, 1) := by decide +kernel
theorem dX7_lessenAll_66 : decode cX7_lessenAll 66 = .ok (.iload 8, 2) := by decide +kernel
theorem dX7_lessenAll_68 : decode cX7_lessenAll 68 = .ok (.invokestatic 53, 3) := by decide +kernel
theorem dX7_lessenAll_71 : decode cX7_lessenAll 71 = .ok (.invokevirtual 76, 3) := by decide +kernel
theorem dX7_lessenAll_74 : decode cX7_lessenAll 74 = .ok (.iadd, 1) := by decide +kernel
theorem dX7_lessenAll_75 : decode cX7_lessenAll 75 = .ok (.istore 5, 2) := by decide +kernel
theorem dX7_lessenAll_77 : decode cX7_lessenAll 77 = .ok (.iload 5, 2) := by decide +kernel
theorem dX7_lessenAll_79 : decode cX7_lessenAll 79 = .ok (.aload_n 0, 1) := by decide +kernel
theorem dX7_lessenAll_80 : decode cX7_lessenAll 80 = .ok (.iload_n 2, 1) := by decide +kernel
theorem dX7_lessenAll_81 : decode cX7_lessenAll 81 = .ok (.iload 8, 2) := by decide +kernel
theorem dX7_lessenAll_83 : decode cX7_lessenAll 83 = .ok (.invokestatic 53, 3) := by decide +kernel
theorem dX7_lessenAll_86 : decode cX7_lessenAll 86 = .ok (.iload_n 2, 1) := by decide +kernel
theorem dX7_lessenAll_87 : decode cX7_lessenAll 87 = .ok (.iload 7, 2) := by decide +kernel
theorem dX7_lessenAll_89 : decode cX7_lessenAll 89 = .ok (.invokestatic 53, 3) := by decide +kernel
theorem dX7_lessenAll_92 : decode cX7_lessenAll 92 = .ok (.invokevirtual 76, 3) := by decide +kernel
theorem dX7_lessenAll_95 : decode cX7_lessenAll 95 = .ok (.iadd, 1) := by decide +kernel
theorem dX7_lessenAll_96 : decode cX7_lessenAll 96 = .ok (.istore 5, 2) := by decide +kernel
theorem dX7_lessenAll_98 : decode cX7_lessenAll 98 = .ok (.iload_n 2, 1) := by decide +kernel
theorem dX7_lessenAll_99 : decode cX7_lessenAll 99 = .ok (.iload 6, 2) := by decide +kernel
theorem dX7_lessenAll_101 : decode cX7_lessenAll 101 = .ok (.invokestatic 56, 3) := by decide +kernel
theorem dX7_lessenAll_104 : decode cX7_lessenAll 104 = .ok (.istore 9, 2) := by decide +kernel
theorem dX7_lessenAll_106 : decode cX7_lessenAll 106 = .ok (.goto 22, 3) := by decide +kernel
theorem dX7_lessenAll_109 : decode cX7_lessenAll 109 = .ok (.iload 4, 2) := by decide +kernel
theorem dX7_lessenAll_111 : decode cX7_lessenAll 111 = .ok (.iload 6, 2) := by decide +kernel
theorem dX7_lessenAll_113 : decode cX7_lessenAll 113 = .ok (.invokestatic 45, 3) := by decide +kernel
theorem dX7_lessenAll_116 : decode cX7_lessenAll 116 = .ok (.ifCond .eq 12, 3) := by decide +kernel
theorem dX7_lessenAll_119 : decode cX7_lessenAll 119 = .ok (.aload_n 1, 1) := by decide +kernel
theorem dX7_lessenAll_120 : decode cX7_lessenAll 120 = .ok (.iload_n 2, 1) := by decide +kernel
theorem dX7_lessenAll_121 : decode cX7_lessenAll 121 = .ok (.iload 6, 2) := by decide +kernel
theorem dX7_lessenAll_123 : decode cX7_lessenAll 123 = .ok (.invokevirtual 59, 3) := by decide +kernel
theorem dX7_lessenAll_126 : decode cX7_lessenAll 126 = .ok (.istore 9, 2) := by decide +kernel
theorem dX7_lessenAll_128 : decode cX7_lessenAll 128 = .ok (.iload 5, 2) := by decide +kernel
theorem dX7_lessenAll_130 : decode cX7_lessenAll 130 = .ok (.aload_n 0, 1) := by decide +kernel
theorem dX7_lessenAll_131 : decode cX7_lessenAll 131 = .ok (.iload_n 2, 1) := by decide +kernel
theorem dX7_lessenAll_132 : decode cX7_lessenAll 132 = .ok (.iload 7, 2) := by decide +kernel
theorem dX7_lessenAll_134 : decode cX7_lessenAll 134 = .ok (.invokestatic 53, 3) := by decide +kernel
theorem dX7_lessenAll_137 : decode cX7_lessenAll 137 = .ok (.iload 9, 2) := by decide +kernel
theorem dX7_lessenAll_139 : decode cX7_lessenAll 139 = .ok (.iload 7, 2) := by decide +kernel
theorem dX7_lessenAll_141 : decode cX7_lessenAll 141 = .ok (.invokestatic 53, 3) := by decide +kernel
theorem dX7_lessenAll_144 : decode cX7_lessenAll 144 = .ok (.invokevirtual 76, 3) := by decide +kernel
theorem dX7_lessenAll_147 : decode cX7_lessenAll 147 = .ok (.iadd, 1) := by decide +kernel
theorem dX7_lessenAll_148 : decode cX7_lessenAll 148 = .ok (.istore 5, 2) := by decide +kernel
theorem dX7_lessenAll_150 : decode cX7_lessenAll 150 = .ok (.iload 5, 2) := by decide +kernel
theorem dX7_lessenAll_152 : decode cX7_lessenAll 152 = .ok (.aload_n 0, 1) := by decide +kernel
theorem dX7_lessenAll_153 : decode cX7_lessenAll 153 = .ok (.iload_n 2, 1) := by decide +kernel
theorem dX7_lessenAll_154 : decode cX7_lessenAll 154 = .ok (.iload 8, 2) := by decide +kernel
theorem dX7_lessenAll_156 : decode cX7_lessenAll 156 = .ok (.invokestatic 53, 3) := by decide +kernel
theorem dX7_lessenAll_159 : decode cX7_lessenAll 159 = .ok (.iload 9, 2) := by decide +kernel
theorem dX7_lessenAll_161 : decode cX7_lessenAll 161 = .ok (.iload 8, 2) := by decide +kernel
theorem dX7_lessenAll_163 : decode cX7_lessenAll 163 = .ok (.invokestatic 53, 3) := by decide +kernel
theorem dX7_lessenAll_166 : decode cX7_lessenAll 166 = .ok (.invokevirtual 76, 3) := by decide +kernel
theorem dX7_lessenAll_169 : decode cX7_lessenAll 169 = .ok (.iadd, 1) := by decide +kernel
theorem dX7_lessenAll_170 : decode cX7_lessenAll 170 = .ok (.istore 5, 2) := by decide +kernel
theorem dX7_lessenAll_172 : decode cX7_lessenAll 172 = .ok (.iinc 6 1, 3) := by decide +kernel
theorem dX7_lessenAll_175 : decode cX7_lessenAll 175 = .ok (.goto (-154), 3) := by decide +kernel
theorem dX7_lessenAll_178 : decode cX7_lessenAll 178 = .ok (.iload 5, 2) := by decide +kernel
theorem dX7_lessenAll_180 : decode cX7_lessenAll 180 = .ok (.ireturn, 1) := by decide +kernel
theorem dX7_lessen_0 : decode cX7_lessen 0 = .ok (.aload_n 0, 1) := by decide +kernel
theorem dX7_lessen_1 : decode cX7_lessen 1 = .ok (.getfield 9, 3) := by decide +kernel
theorem dX7_lessen_4 : decode cX7_lessen 4 = .ok (.iload_n 2, 1) := by decide +kernel
theorem dX7_lessen_5 : decode cX7_lessen 5 = .ok (.iaload, 1) := by decide +kernel
theorem dX7_lessen_6 : decode cX7_lessen 6 = .ok (.iconst 1, 1) := by decide +kernel
theorem dX7_lessen_7 : decode cX7_lessen 7 = .ok (.iadd, 1) := by decide +kernel
theorem dX7_lessen_8 : decode cX7_lessen 8 = .ok (.aload_n 0, 1) := by decide +kernel
theorem dX7_lessen_9 : decode cX7_lessen 9 = .ok (.getfield 9, 3) := by decide +kernel
theorem dX7_lessen_12 : decode cX7_lessen 12 = .ok (.iload_n 1, 1) := by decide +kernel
theorem dX7_lessen_13 : decode cX7_lessen 13 = .ok (.iaload, 1) := by decide +kernel
theorem dX7_lessen_14 : decode cX7_lessen 14 = .ok (.if_icmp .lt 5, 3) := by decide +kernel
theorem dX7_lessen_17 : decode cX7_lessen 17 = .ok (.iconst 0, 1) := by decide +kernel
theorem dX7_lessen_18 : decode cX7_lessen 18 = .ok (.ireturn, 1) := by decide +kernel
theorem dX7_lessen_19 : decode cX7_lessen 19 = .ok (.aload_n 0, 1) := by decide +kernel
theorem dX7_lessen_20 : decode cX7_lessen 20 = .ok (.getfield 9, 3) := by decide +kernel
theorem dX7_lessen_23 : decode cX7_lessen 23 = .ok (.iload_n 1, 1) := by decide +kernel
theorem dX7_lessen_24 : decode cX7_lessen 24 = .ok (.aload_n 0, 1) := by decide +kernel
theorem dX7_lessen_25 : decode cX7_lessen 25 = .ok (.getfield 9, 3) := by decide +kernel
theorem dX7_lessen_28 : decode cX7_lessen 28 = .ok (.iload_n 2, 1) := by decide +kernel
theorem dX7_lessen_29 : decode cX7_lessen 29 = .ok (.iaload, 1) := by decide +kernel
theorem dX7_lessen_30 : decode cX7_lessen 30 = .ok (.iconst 1, 1) := by decide +kernel
theorem dX7_lessen_31 : decode cX7_lessen 31 = .ok (.iadd, 1) := by decide +kernel
theorem dX7_lessen_32 : decode cX7_lessen 32 = .ok (.iastore, 1) := by decide +kernel
theorem dX7_lessen_33 : decode cX7_lessen 33 = .ok (.iconst 1, 1) := by decide +kernel
theorem dX7_lessen_34 : decode cX7_lessen 34 = .ok (.ireturn, 1) := by decide +kernel
theorem dX8_init_0 : decode cX8_init 0 = .ok (.aload_n 0, 1) := by decide +kernel
theorem dX8_init_1 : decode cX8_init 1 = .ok (.invokespecial 3, 3) := by decide +kernel
theorem dX8_init_4 : decode cX8_init 4 = .ok (.aload_n 0, 1) := by decide +kernel
theorem dX8_init_5 : decode cX8_init 5 = .ok (.new 9, 3) := by decide +kernel
theorem dX8_init_8 : decode cX8_init 8 = .ok (.dup, 1) := by decide +kernel
theorem dX8_init_9 : decode cX8_init 9 = .ok (.invokespecial 11, 3) := by decide +kernel
theorem dX8_init_12 : decode cX8_init 12 = .ok (.putfield 12, 3) := by decide +kernel
theorem dX8_init_15 : decode cX8_init 15 = .ok (.aload_n 0, 1) := by decide +kernel
theorem dX8_init_16 : decode cX8_init 16 = .ok (.new 16, 3) := by decide +kernel
theorem dX8_init_19 : decode cX8_init 19 = .ok (.dup, 1) := by decide +kernel
theorem dX8_init_20 : decode cX8_init 20 = .ok (.invokespecial 18, 3) := by decide +kernel
theorem dX8_init_23 : decode cX8_init 23 = .ok (.putfield 19, 3) := by decide +kernel
theorem dX8_init_26 : decode cX8_init 26 = .ok (.aload_n 0, 1) := by decide +kernel
theorem dX8_init_27 : decode cX8_init 27 = .ok (.new 9, 3) := by decide +kernel
theorem dX8_init_30 : decode cX8_init 30 = .ok (.dup, 1) := by decide +kernel
theorem dX8_init_31 : decode cX8_init 31 = .ok (.invokespecial 11, 3) := by decide +kernel
theorem dX8_init_34 : decode cX8_init 34 = .ok (.putfield 23, 3) := by decide +kernel
theorem dX8_init_37 : decode cX8_init 37 = .ok (.aload_n 0, 1) := by decide +kernel
theorem dX8_init_38 : decode cX8_init 38 = .ok (.iconst 0, 1) := by decide +kernel
theorem dX8_init_39 : decode cX8_init 39 = .ok (.putfield 26, 3) := by decide +kernel
theorem dX8_init_42 : decode cX8_init 42 = .ok (.aload_n 0, 1) := by decide +kernel
theorem dX8_init_43 : decode cX8_init 43 = .ok (.new 30, 3) := by decide +kernel
theorem dX8_init_46 : decode cX8_init 46 = .ok (.dup, 1) := by decide +kernel
theorem dX8_init_47 : decode cX8_init 47 = .ok (.invokespecial 32, 3) := by decide +kernel
theorem dX8_init_50 : decode cX8_init 50 = .ok (.putfield 33, 3) := by decide +kernel
theorem dX8_init_53 : decode cX8_init 53 = .ok (.aload_n 0, 1) := by decide +kernel
theorem dX8_init_54 : decode cX8_init 54 = .ok (.new 37, 3) := by decide +kernel
theorem dX8_init_57 : decode cX8_init 57 = .ok (.dup, 1) := by decide +kernel
theorem dX8_init_58 : decode cX8_init 58 = .ok (.invokespecial 39, 3) := by decide +kernel
theorem dX8_init_61 : decode cX8_init 61 = .ok (.putfield 40, 3) := by decide +kernel
theorem dX8_init_64 : decode cX8_init 64 = .ok (.aload_n 0, 1) := by decide +kernel
theorem dX8_init_65 : decode cX8_init 65 = .ok (.new 44, 3) := by decide +kernel
theorem dX8_init_68 : decode cX8_init 68 = .ok (.dup, 1) := by decide +kernel
theorem dX8_init_69 : decode cX8_init 69 = .ok (.invokespecial 46, 3) := by decide +kernel
theorem dX8_init_72 : decode cX8_init 72 = .ok (.putfield 47, 3) := by decide +kernel
theorem dX8_init_75 : decode cX8_init 75 = .ok (.return_, 1) := by decide +kernel
theorem dX8_open_0 : decode cX8_open 0 = .ok (.iload_n 1, 1) := by decide +kernel
theorem dX8_open_1 : decode cX8_open 1 = .ok (.invokestatic 51, 3) := by decide +kernel
theorem dX8_open_4 : decode cX8_open 4 = .ok (.ifCond .ne 5, 3) := by decide +kernel
theorem dX8_open_7 : decode cX8_open 7 = .ok (.iconst (-1), 1) := by decide +kernel
theorem dX8_open_8 : decode cX8_open 8 = .ok (.ireturn, 1) := by decide +kernel
theorem dX8_open_9 : decode cX8_open 9 = .ok (.aload_n 0, 1) := by decide +kernel
theorem dX8_open_10 : decode cX8_open 10 = .ok (.getfield 19, 3) := by decide +kernel
theorem dX8_open_13 : decode cX8_open 13 = .ok (.aload_n 0, 1) := by decide +kernel
theorem dX8_open_14 : decode cX8_open 14 = .ok (.getfield 12, 3) := by decide +kernel
theorem dX8_open_17 : decode cX8_open 17 = .ok (.invokevirtual 55, 3) := by decide +kernel
theorem dX8_open_20 : decode cX8_open 20 = .ok (.aload_n 0, 1) := by decide +kernel
theorem dX8_open_21 : decode cX8_open 21 = .ok (.getfield 12, 3) := by decide +kernel
theorem dX8_open_24 : decode cX8_open 24 = .ok (.iload_n 1, 1) := by decide +kernel
theorem dX8_open_25 : decode cX8_open 25 = .ok (.invokevirtual 59, 3) := by decide +kernel
theorem dX8_open_28 : decode cX8_open 28 = .ok (.ireturn, 1) := by decide +kernel
theorem dX8_shut_0 : decode cX8_shut 0 = .ok (.iload_n 1, 1) := by decide +kernel
theorem dX8_shut_1 : decode cX8_shut 1 = .ok (.invokestatic 51, 3) := by decide +kernel
theorem dX8_shut_4 : decode cX8_shut 4 = .ok (.ifCond .ne 5, 3) := by decide +kernel
theorem dX8_shut_7 : decode cX8_shut 7 = .ok (.iconst (-1), 1) := by decide +kernel
theorem dX8_shut_8 : decode cX8_shut 8 = .ok (.ireturn, 1) := by decide +kernel
theorem dX8_shut_9 : decode cX8_shut 9 = .ok (.aload_n 0, 1) := by decide +kernel
theorem dX8_shut_10 : decode cX8_shut 10 = .ok (.getfield 19, 3) := by decide +kernel
theorem dX8_shut_13 : decode cX8_shut 13 = .ok (.aload_n 0, 1) := by decide +kernel
theorem dX8_shut_14 : decode cX8_shut 14 = .ok (.getfield 12, 3) := by decide +kernel
theorem dX8_shut_17 : decode cX8_shut 17 = .ok (.invokevirtual 55, 3) := by decide +kernel
theorem dX8_shut_20 : decode cX8_shut 20 = .ok (.aload_n 0, 1) := by decide +kernel
theorem dX8_shut_21 : decode cX8_shut 21 = .ok (.getfield 12, 3) := by decide +kernel
theorem dX8_shut_24 : decode cX8_shut 24 = .ok (.iload_n 1, 1) := by decide +kernel
theorem dX8_shut_25 : decode cX8_shut 25 = .ok (.invokevirtual 63, 3) := by decide +kernel
theorem dX8_shut_28 : decode cX8_shut 28 = .ok (.ireturn, 1) := by decide +kernel
theorem dX8_cord_0 : decode cX8_cord 0 = .ok (.iload_n 1, 1) := by decide +kernel
theorem dX8_cord_1 : decode cX8_cord 1 = .ok (.invokestatic 51, 3) := by decide +kernel
theorem dX8_cord_4 : decode cX8_cord 4 = .ok (.ifCond .eq 21, 3) := by decide +kernel
theorem dX8_cord_7 : decode cX8_cord 7 = .ok (.iload_n 3, 1) := by decide +kernel
theorem dX8_cord_8 : decode cX8_cord 8 = .ok (.invokestatic 51, 3) := by decide +kernel
theorem dX8_cord_11 : decode cX8_cord 11 = .ok (.ifCond .ne 9, 3) := by decide +kernel
theorem dX8_cord_14 : decode cX8_cord 14 = .ok (.iload_n 3, 1) := by decide +kernel
theorem dX8_cord_15 : decode cX8_cord 15 = .ok (.bipush 10, 2) := by decide +kernel
theorem dX8_cord_17 : decode cX8_cord 17 = .ok (.if_icmp .ne 8, 3) := by decide +kernel
theorem dX8_cord_20 : decode cX8_cord 20 = .ok (.iload_n 3, 1) := by decide +kernel
theorem dX8_cord_21 : decode cX8_cord 21 = .ok (.iload_n 1, 1) := by decide +kernel
theorem dX8_cord_22 : decode cX8_cord 22 = .ok (.if_icmp .ne 5, 3) := by decide +kernel
theorem dX8_cord_25 : decode cX8_cord 25 = .ok (.iconst (-1), 1) := by decide +kernel
theorem dX8_cord_26 : decode cX8_cord 26 = .ok (.ireturn, 1) := by decide +kernel
theorem dX8_cord_27 : decode cX8_cord 27 = .ok (.iload_n 3, 1) := by decide +kernel
theorem dX8_cord_28 : decode cX8_cord 28 = .ok (.bipush 10, 2) := by decide +kernel
theorem dX8_cord_30 : decode cX8_cord 30 = .ok (.if_icmp .eq 29, 3) := by decide +kernel
theorem dX8_cord_33 : decode cX8_cord 33 = .ok (.iload_n 3, 1) := by decide +kernel
theorem dX8_cord_34 : decode cX8_cord 34 = .ok (.aload_n 0, 1) := by decide +kernel
theorem dX8_cord_35 : decode cX8_cord 35 = .ok (.getfield 12, 3) := by decide +kernel
theorem dX8_cord_38 : decode cX8_cord 38 = .ok (.getfield 66, 3) := by decide +kernel
theorem dX8_cord_41 : decode cX8_cord 41 = .ok (.iload_n 1, 1) := by decide +kernel
theorem dX8_cord_42 : decode cX8_cord 42 = .ok (.iload_n 2, 1) := by decide +kernel
theorem dX8_cord_43 : decode cX8_cord 43 = .ok (.ifCond .ne 7, 3) := by decide +kernel
theorem dX8_cord_46 : decode cX8_cord 46 = .ok (.iconst 1, 1) := by decide +kernel
theorem dX8_cord_47 : decode cX8_cord 47 = .ok (.goto 4, 3) := by decide +kernel
theorem dX8_cord_50 : decode cX8_cord 50 = .ok (.iconst 0, 1) := by decide +kernel
theorem dX8_cord_51 : decode cX8_cord 51 = .ok (.invokevirtual 70, 3) := by decide +kernel
theorem dX8_cord_54 : decode cX8_cord 54 = .ok (.if_icmp .ne 5, 3) := by decide +kernel
theorem dX8_cord_57 : decode cX8_cord 57 = .ok (.iconst (-1), 1) := by decide +kernel
theorem dX8_cord_58 : decode cX8_cord 58 = .ok (.ireturn, 1) := by decide +kernel
theorem dX8_cord_59 : decode cX8_cord 59 = .ok (.aload_n 0, 1) := by decide +kernel
theorem dX8_cord_60 : decode cX8_cord 60 = .ok (.getfield 19, 3) := by decide +kernel
theorem dX8_cord_63 : decode cX8_cord 63 = .ok (.aload_n 0, 1) := by decide +kernel
theorem dX8_cord_64 : decode cX8_cord 64 = .ok (.getfield 12, 3) := by decide +kernel
theorem dX8_cord_67 : decode cX8_cord 67 = .ok (.invokevirtual 55, 3) := by decide +kernel
theorem dX8_cord_70 : decode cX8_cord 70 = .ok (.aload_n 0, 1) := by decide +kernel
theorem dX8_cord_71 : decode cX8_cord 71 = .ok (.getfield 12, 3) := by decide +kernel
theorem dX8_cord_74 : decode cX8_cord 74 = .ok (.iload_n 1, 1) := by decide +kernel
theorem dX8_cord_75 : decode cX8_cord 75 = .ok (.iload_n 2, 1) := by decide +kernel
theorem dX8_cord_76 : decode cX8_cord 76 = .ok (.iload_n 3, 1) := by decide +kernel
theorem dX8_cord_77 : decode cX8_cord 77 = .ok (.invokevirtual 76, 3) := by decide +kernel
theorem dX8_cord_80 : decode cX8_cord 80 = .ok (.ireturn, 1) := by decide +kernel
theorem dX8_join_0 : decode cX8_join 0 = .ok (.iload_n 1, 1) := by decide +kernel
theorem dX8_join_1 : decode cX8_join 1 = .ok (.invokestatic 51, 3) := by decide +kernel
theorem dX8_join_4 : decode cX8_join 4 = .ok (.ifCond .eq 22, 3) := by decide +kernel
theorem dX8_join_7 : decode cX8_join 7 = .ok (.iload_n 2, 1) := by decide +kernel
theorem dX8_join_8 : decode cX8_join 8 = .ok (.invokestatic 80, 3) := by decide +kernel
theorem dX8_join_11 : decode cX8_join 11 = .ok (.ifCond .eq 15, 3) := by decide +kernel
theorem dX8_join_14 : decode cX8_join 14 = .ok (.iload_n 3, 1) := by decide +kernel
theorem dX8_join_15 : decode cX8_join 15 = .ok (.invokestatic 80, 3) := by decide +kernel
theorem dX8_join_18 : decode cX8_join 18 = .ok (.ifCond .eq 8, 3) := by decide +kernel
theorem dX8_join_21 : decode cX8_join 21 = .ok (.iload_n 2, 1) := by decide +kernel
theorem dX8_join_22 : decode cX8_join 22 = .ok (.iload_n 3, 1) := by decide +kernel
theorem dX8_join_23 : decode cX8_join 23 = .ok (.if_icmp .ne 5, 3) := by decide +kernel
theorem dX8_join_26 : decode cX8_join 26 = .ok (.iconst (-1), 1) := by decide +kernel
theorem dX8_join_27 : decode cX8_join 27 = .ok (.ireturn, 1) := by decide +kernel
theorem dX8_join_28 : decode cX8_join 28 = .ok (.aload_n 0, 1) := by decide +kernel
theorem dX8_join_29 : decode cX8_join 29 = .ok (.getfield 12, 3) := by decide +kernel
theorem dX8_join_32 : decode cX8_join 32 = .ok (.iload_n 1, 1) := by decide +kernel
theorem dX8_join_33 : decode cX8_join 33 = .ok (.invokevirtual 83, 3) := by decide +kernel
theorem dX8_join_36 : decode cX8_join 36 = .ok (.ifCond .eq 6, 3) := by decide +kernel
theorem dX8_join_39 : decode cX8_join 39 = .ok (.bipush (-2), 2) := by decide +kernel
theorem dX8_join_41 : decode cX8_join 41 = .ok (.ireturn, 1) := by decide +kernel
theorem dX8_join_42 : decode cX8_join 42 = .ok (.aload_n 0, 1) := by decide +kernel
theorem dX8_join_43 : decode cX8_join 43 = .ok (.getfield 19, 3) := by decide +kernel
theorem dX8_join_46 : decode cX8_join 46 = .ok (.aload_n 0, 1) := by decide +kernel
theorem dX8_join_47 : decode cX8_join 47 = .ok (.getfield 12, 3) := by decide +kernel
theorem dX8_join_50 : decode cX8_join 50 = .ok (.invokevirtual 55, 3) := by decide +kernel
theorem dX8_join_53 : decode cX8_join 53 = .ok (.bipush 10, 2) := by decide +kernel
theorem dX8_join_55 : decode cX8_join 55 = .ok (.aload_n 0, 1) := by decide +kernel
theorem dX8_join_56 : decode cX8_join 56 = .ok (.getfield 12, 3) := by decide +kernel
theorem dX8_join_59 : decode cX8_join 59 = .ok (.getfield 66, 3) := by decide +kernel
theorem dX8_join_62 : decode cX8_join 62 = .ok (.iload_n 1, 1) := by decide +kernel
theorem dX8_join_63 : decode cX8_join 63 = .ok (.invokevirtual 86, 3) := by decide +kernel
theorem dX8_join_66 : decode cX8_join 66 = .ok (.imul, 1) := by decide +kernel
theorem dX8_join_67 : decode cX8_join 67 = .ok (.aload_n 0, 1) := by decide +kernel
theorem dX8_join_68 : decode cX8_join 68 = .ok (.getfield 12, 3) := by decide +kernel
theorem dX8_join_71 : decode cX8_join 71 = .ok (.getfield 66, 3) := by decide +kernel
theorem dX8_join_74 : decode cX8_join 74 = .ok (.iload_n 1, 1) := by decide +kernel
theorem dX8_join_75 : decode cX8_join 75 = .ok (.invokevirtual 89, 3) := by decide +kernel
theorem dX8_join_78 : decode cX8_join 78 = .ok (.iadd, 1) := by decide +kernel
theorem dX8_join_79 : decode cX8_join 79 = .ok (.istore 4, 2) := by decide +kernel
theorem dX8_join_81 : decode cX8_join 81 = .ok (.aload_n 0, 1) := by decide +kernel
theorem dX8_join_82 : decode cX8_join 82 = .ok (.getfield 12, 3) := by decide +kernel
theorem dX8_join_85 : decode cX8_join 85 = .ok (.getfield 66, 3) := by decide +kernel
theorem dX8_join_88 : decode cX8_join 88 = .ok (.iload_n 1, 1) := by decide +kernel
theorem dX8_join_89 : decode cX8_join 89 = .ok (.iload_n 2, 1) := by decide +kernel
theorem dX8_join_90 : decode cX8_join 90 = .ok (.iload_n 3, 1) := by decide +kernel
theorem dX8_join_91 : decode cX8_join 91 = .ok (.invokevirtual 92, 3) := by decide +kernel
theorem dX8_join_94 : decode cX8_join 94 = .ok (.iload 4, 2) := by decide +kernel
theorem dX8_join_96 : decode cX8_join 96 = .ok (.ireturn, 1) := by decide +kernel
theorem dX8_keys_0 : decode cX8_keys 0 = .ok (.iload_n 1, 1) := by decide +kernel
theorem dX8_keys_1 : decode cX8_keys 1 = .ok (.invokestatic 96, 3) := by decide +kernel
theorem dX8_keys_4 : decode cX8_keys 4 = .ok (.ifCond .eq 10, 3) := by decide +kernel
theorem dX8_keys_7 : decode cX8_keys 7 = .ok (.iload_n 2, 1) := by decide +kernel
theorem dX8_keys_8 : decode cX8_keys 8 = .ok (.invokestatic 99, 3) := by decide +kernel
theorem dX8_keys_11 : decode cX8_keys 11 = .ok (.ifCond .ne 5, 3) := by decide +kernel
theorem dX8_keys_14 : decode cX8_keys 14 = .ok (.iconst (-1), 1) := by decide +kernel
theorem dX8_keys_15 : decode cX8_keys 15 = .ok (.ireturn, 1) := by decide +kernel
theorem dX8_keys_16 : decode cX8_keys 16 = .ok (.aload_n 0, 1) := by decide +kernel
theorem dX8_keys_17 : decode cX8_keys 17 = .ok (.getfield 19, 3) := by decide +kernel
theorem dX8_keys_20 : decode cX8_keys 20 = .ok (.aload_n 0, 1) := by decide +kernel
theorem dX8_keys_21 : decode cX8_keys 21 = .ok (.getfield 12, 3) := by decide +kernel
theorem dX8_keys_24 : decode cX8_keys 24 = .ok (.invokevirtual 55, 3) := by decide +kernel
theorem dX8_keys_27 : decode cX8_keys 27 = .ok (.aload_n 0, 1) := by decide +kernel
theorem dX8_keys_28 : decode cX8_keys 28 = .ok (.getfield 12, 3) := by decide +kernel
theorem dX8_keys_31 : decode cX8_keys 31 = .ok (.getfield 102, 3) := by decide +kernel
theorem dX8_keys_34 : decode cX8_keys 34 = .ok (.getfield 106, 3) := by decide +kernel
theorem dX8_keys_37 : decode cX8_keys 37 = .ok (.iload_n 1, 1) := by decide +kernel
theorem dX8_keys_38 : decode cX8_keys 38 = .ok (.iaload, 1) := by decide +kernel
theorem dX8_keys_39 : decode cX8_keys 39 = .ok (.istore_n 3, 1) := by decide +kernel
theorem dX8_keys_40 : decode cX8_keys 40 = .ok (.aload_n 0, 1) := by decide +kernel
theorem dX8_keys_41 : decode cX8_keys 41 = .ok (.getfield 12, 3) := by decide +kernel
theorem dX8_keys_44 : decode cX8_keys 44 = .ok (.getfield 102, 3) := by decide +kernel
theorem dX8_keys_47 : decode cX8_keys 47 = .ok (.getfield 106, 3) := by decide +kernel
theorem dX8_keys_50 : decode cX8_keys 50 = .ok (.iload_n 1, 1) := by decide +kernel
theorem dX8_keys_51 : decode cX8_keys 51 = .ok (.iload_n 2, 1) := by decide +kernel
theorem dX8_keys_52 : decode cX8_keys 52 = .ok (.iastore, 1) := by decide +kernel
theorem dX8_keys_53 : decode cX8_keys 53 = .ok (.iload_n 3, 1) := by decide +kernel
theorem dX8_keys_54 : decode cX8_keys 54 = .ok (.ireturn, 1) := by decide +kernel
theorem dX8_draft_0 : decode cX8_draft 0 = .ok (.iload_n 1, 1) := by decide +kernel
theorem dX8_draft_1 : decode cX8_draft 1 = .ok (.iconst 1, 1) := by decide +kernel
theorem dX8_draft_2 : decode cX8_draft 2 = .ok (.if_icmp .lt 9, 3) := by decide +kernel
theorem dX8_draft_5 : decode cX8_draft 5 = .ok (.iload_n 1, 1) := by decide +kernel
theorem dX8_draft_6 : decode cX8_draft 6 = .ok (.bipush 10, 2) := by decide +kernel
theorem dX8_draft_8 : decode cX8_draft 8 = .ok (.if_icmp .le 5, 3) := by decide +kernel
theorem dX8_draft_11 : decode cX8_draft 11 = .ok (.iconst (-1), 1) := by decide +kernel
theorem dX8_draft_12 : decode cX8_draft 12 = .ok (.ireturn, 1) := by decide +kernel
theorem dX8_draft_13 : decode cX8_draft 13 = .ok (.aload_n 0, 1) := by decide +kernel
theorem dX8_draft_14 : decode cX8_draft 14 = .ok (.getfield 19, 3) := by decide +kernel
theorem dX8_draft_17 : decode cX8_draft 17 = .ok (.aload_n 0, 1) := by decide +kernel
theorem dX8_draft_18 : decode cX8_draft 18 = .ok (.getfield 12, 3) := by decide +kernel
theorem dX8_draft_21 : decode cX8_draft 21 = .ok (.invokevirtual 55, 3) := by decide +kernel
theorem dX8_draft_24 : decode cX8_draft 24 = .ok (.aload_n 0, 1) := by decide +kernel
theorem dX8_draft_25 : decode cX8_draft 25 = .ok (.getfield 12, 3) := by decide +kernel
theorem dX8_draft_28 : decode cX8_draft 28 = .ok (.getfield 66, 3) := by decide +kernel
theorem dX8_draft_31 : decode cX8_draft 31 = .ok (.getfield 112, 3) := by decide +kernel
theorem dX8_draft_34 : decode cX8_draft 34 = .ok (.istore_n 2, 1) := by decide +kernel
theorem dX8_draft_35 : decode cX8_draft 35 = .ok (.aload_n 0, 1) := by decide +kernel
theorem dX8_draft_36 : decode cX8_draft 36 = .ok (.getfield 12, 3) := by decide +kernel
theorem dX8_draft_39 : decode cX8_draft 39 = .ok (.getfield 66, 3) := by decide +kernel
theorem dX8_draft_42 : decode cX8_draft 42 = .ok (.iload_n 1, 1) := by decide +kernel
theorem dX8_draft_43 : decode cX8_draft 43 = .ok (.putfield 112, 3) := by decide +kernel
theorem dX8_draft_46 : decode cX8_draft 46 = .ok (.iload_n 2, 1) := by decide +kernel
theorem dX8_draft_47 : decode cX8_draft 47 = .ok (.ireturn, 1) := by decide +kernel
theorem dX8_guestOpens_0 : decode cX8_guestOpens 0 = .ok (.iload_n 1, 1) := by decide +kernel
theorem dX8_guestOpens_1 : decode cX8_guestOpens 1 = .ok (.invokestatic 96, 3) := by decide +kernel
theorem dX8_guestOpens_4 : decode cX8_guestOpens 4 = .ok (.ifCond .eq 10, 3) := by decide +kernel
theorem dX8_guestOpens_7 : decode cX8_guestOpens 7 = .ok (.iload_n 2, 1) := by decide +kernel
theorem dX8_guestOpens_8 : decode cX8_guestOpens 8 = .ok (.invokestatic 51, 3) := by decide +kernel
theorem dX8_guestOpens_11 : decode cX8_guestOpens 11 = .ok (.ifCond .ne 5, 3) := by decide +kernel
theorem dX8_guestOpens_14 : decode cX8_guestOpens 14 = .ok (.iconst (-1), 1) := by decide +kernel
theorem dX8_guestOpens_15 : decode cX8_guestOpens 15 = .ok (.ireturn, 1) := by decide +kernel
theorem dX8_guestOpens_16 : decode cX8_guestOpens 16 = .ok (.aload_n 0, 1) := by decide +kernel
theorem dX8_guestOpens_17 : decode cX8_guestOpens 17 = .ok (.getfield 19, 3) := by decide +kernel
theorem dX8_guestOpens_20 : decode cX8_guestOpens 20 = .ok (.aload_n 0, 1) := by decide +kernel
theorem dX8_guestOpens_21 : decode cX8_guestOpens 21 = .ok (.getfield 12, 3) := by decide +kernel
theorem dX8_guestOpens_24 : decode cX8_guestOpens 24 = .ok (.invokevirtual 55, 3) := by decide +kernel
theorem dX8_guestOpens_27 : decode cX8_guestOpens 27 = .ok (.aload_n 0, 1) := by decide +kernel
theorem dX8_guestOpens_28 : decode cX8_guestOpens 28 = .ok (.getfield 12, 3) := by decide +kernel
theorem dX8_guestOpens_31 : decode cX8_guestOpens 31 = .ok (.iload_n 1, 1) := by decide +kernel
theorem dX8_guestOpens_32 : decode cX8_guestOpens 32 = .ok (.iload_n 2, 1) := by decide +kernel
theorem dX8_guestOpens_33 : decode cX8_guestOpens 33 = .ok (.invokevirtual 116, 3) := by decide +kernel
theorem dX8_guestOpens_36 : decode cX8_guestOpens 36 = .ok (.ireturn, 1) := by decide +kernel
theorem dX8_guestShuts_0 : decode cX8_guestShuts 0 = .ok (.iload_n 1, 1) := by decide +kernel
theorem dX8_guestShuts_1 : decode cX8_guestShuts 1 = .ok (.invokestatic 96, 3) := by decide +kernel
theorem dX8_guestShuts_4 : decode cX8_guestShuts 4 = .ok (.ifCond .eq 10, 3) := by decide +kernel
theorem dX8_guestShuts_7 : decode cX8_guestShuts 7 = .ok (.iload_n 2, 1) := by decide +kernel
theorem dX8_guestShuts_8 : decode cX8_guestShuts 8 = .ok (.invokestatic 51, 3) := by decide +kernel
theorem dX8_guestShuts_11 : decode cX8_guestShuts 11 = .ok (.ifCond .ne 5, 3) := by decide +kernel
theorem dX8_guestShuts_14 : decode cX8_guestShuts 14 = .ok (.iconst (-1), 1) := by decide +kernel
theorem dX8_guestShuts_15 : decode cX8_guestShuts 15 = .ok (.ireturn, 1) := by decide +kernel
theorem dX8_guestShuts_16 : decode cX8_guestShuts 16 = .ok (.aload_n 0, 1) := by decide +kernel
theorem dX8_guestShuts_17 : decode cX8_guestShuts 17 = .ok (.getfield 19, 3) := by decide +kernel
theorem dX8_guestShuts_20 : decode cX8_guestShuts 20 = .ok (.aload_n 0, 1) := by decide +kernel
theorem dX8_guestShuts_21 : decode cX8_guestShuts 21 = .ok (.getfield 12, 3) := by decide +kernel
theorem dX8_guestShuts_24 : decode cX8_guestShuts 24 = .ok (.invokevirtual 55, 3) := by decide +kernel
theorem dX8_guestShuts_27 : decode cX8_guestShuts 27 = .ok (.aload_n 0, 1) := by decide +kernel
theorem dX8_guestShuts_28 : decode cX8_guestShuts 28 = .ok (.getfield 12, 3) := by decide +kernel
theorem dX8_guestShuts_31 : decode cX8_guestShuts 31 = .ok (.iload_n 1, 1) := by decide +kernel
theorem dX8_guestShuts_32 : decode cX8_guestShuts 32 = .ok (.iload_n 2, 1) := by decide +kernel
theorem dX8_guestShuts_33 : decode cX8_guestShuts 33 = .ok (.invokevirtual 120, 3) := by decide +kernel
theorem dX8_guestShuts_36 : decode cX8_guestShuts 36 = .ok (.ireturn, 1) := by decide +kernel
theorem dX8_walk_0 : decode cX8_walk 0 = .ok (.iload_n 1, 1) := by decide +kernel
theorem dX8_walk_1 : decode cX8_walk 1 = .ok (.invokestatic 96, 3) := by decide +kernel
theorem dX8_walk_4 : decode cX8_walk 4 = .ok (.ifCond .eq 10, 3) := by decide +kernel
theorem dX8_walk_7 : decode cX8_walk 7 = .ok (.iload_n 2, 1) := by decide +kernel
theorem dX8_walk_8 : decode cX8_walk 8 = .ok (.invokestatic 51, 3) := by decide +kernel
theorem dX8_walk_11 : decode cX8_walk 11 = .ok (.ifCond .ne 5, 3) := by decide +kernel
theorem dX8_walk_14 : decode cX8_walk 14 = .ok (.iconst (-1), 1) := by decide +kernel
theorem dX8_walk_15 : decode cX8_walk 15 = .ok (.ireturn, 1) := by decide +kernel
theorem dX8_walk_16 : decode cX8_walk 16 = .ok (.aload_n 0, 1) := by decide +kernel
theorem dX8_walk_17 : decode cX8_walk 17 = .ok (.getfield 19, 3) := by decide +kernel
theorem dX8_walk_20 : decode cX8_walk 20 = .ok (.aload_n 0, 1) := by decide +kernel
theorem dX8_walk_21 : decode cX8_walk 21 = .ok (.getfield 12, 3) := by decide +kernel
theorem dX8_walk_24 : decode cX8_walk 24 = .ok (.invokevirtual 55, 3) := by decide +kernel
theorem dX8_walk_27 : decode cX8_walk 27 = .ok (.aload_n 0, 1) := by decide +kernel
theorem dX8_walk_28 : decode cX8_walk 28 = .ok (.getfield 12, 3) := by decide +kernel
theorem dX8_walk_31 : decode cX8_walk 31 = .ok (.iload_n 1, 1) := by decide +kernel
theorem dX8_walk_32 : decode cX8_walk 32 = .ok (.iload_n 2, 1) := by decide +kernel
theorem dX8_walk_33 : decode cX8_walk 33 = .ok (.invokevirtual 123, 3) := by decide +kernel
theorem dX8_walk_36 : decode cX8_walk 36 = .ok (.ireturn, 1) := by decide +kernel
theorem dX8_append_0 : decode cX8_append 0 = .ok (.iload_n 1, 1) := by decide +kernel
theorem dX8_append_1 : decode cX8_append 1 = .ok (.bipush 33, 2) := by decide +kernel
theorem dX8_append_3 : decode cX8_append 3 = .ok (.if_icmp .lt 9, 3) := by decide +kernel
theorem dX8_append_6 : decode cX8_append 6 = .ok (.iload_n 1, 1) := by decide +kernel
theorem dX8_append_7 : decode cX8_append 7 = .ok (.bipush 126, 2) := by decide +kernel
theorem dX8_append_9 : decode cX8_append 9 = .ok (.if_icmp .le 5, 3) := by decide +kernel
theorem dX8_append_12 : decode cX8_append 12 = .ok (.iconst (-1), 1) := by decide +kernel
theorem dX8_append_13 : decode cX8_append 13 = .ok (.ireturn, 1) := by decide +kernel
theorem dX8_append_14 : decode cX8_append 14 = .ok (.aload_n 0, 1) := by decide +kernel
theorem dX8_append_15 : decode cX8_append 15 = .ok (.getfield 33, 3) := by decide +kernel
theorem dX8_append_18 : decode cX8_append 18 = .ok (.getfield 126, 3) := by decide +kernel
theorem dX8_append_21 : decode cX8_append 21 = .ok (.bipush 60, 2) := by decide +kernel
theorem dX8_append_23 : decode cX8_append 23 = .ok (.if_icmp .lt 6, 3) := by decide +kernel
theorem dX8_append_26 : decode cX8_append 26 = .ok (.bipush (-3), 2) := by decide +kernel
theorem dX8_append_28 : decode cX8_append 28 = .ok (.ireturn, 1) := by decide +kernel
theorem dX8_append_29 : decode cX8_append 29 = .ok (.aload_n 0, 1) := by decide +kernel
theorem dX8_append_30 : decode cX8_append 30 = .ok (.getfield 33, 3) := by decide +kernel
theorem dX8_append_33 : decode cX8_append 33 = .ok (.iload_n 1, 1) := by decide +kernel
theorem dX8_append_34 : decode cX8_append 34 = .ok (.invokevirtual 129, 3) := by decide +kernel
theorem dX8_append_37 : decode cX8_append 37 = .ok (.ireturn, 1) := by decide +kernel
theorem dX8_clear_0 : decode cX8_clear 0 = .ok (.aload_n 0, 1) := by decide +kernel
theorem dX8_clear_1 : decode cX8_clear 1 = .ok (.getfield 33, 3) := by decide +kernel
theorem dX8_clear_4 : decode cX8_clear 4 = .ok (.invokevirtual 132, 3) := by decide +kernel
theorem dX8_clear_7 : decode cX8_clear 7 = .ok (.ireturn, 1) := by decide +kernel
theorem dX8_fault_0 : decode cX8_fault 0 = .ok (.aload_n 0, 1) := by decide +kernel
theorem dX8_fault_1 : decode cX8_fault 1 = .ok (.getfield 33, 3) := by decide +kernel
theorem dX8_fault_4 : decode cX8_fault 4 = .ok (.invokevirtual 136, 3) := by decide +kernel
theorem dX8_fault_7 : decode cX8_fault 7 = .ok (.ireturn, 1) := by decide +kernel
theorem dX8_run_0 : decode cX8_run 0 = .ok (.aload_n 0, 1) := by decide +kernel
theorem dX8_run_1 : decode cX8_run 1 = .ok (.getfield 33, 3) := by decide +kernel
theorem dX8_run_4 : decode cX8_run 4 = .ok (.invokevirtual 136, 3) := by decide +kernel
theorem dX8_run_7 : decode cX8_run 7 = .ok (.bipush (-4), 2) := by decide +kernel
theorem dX8_run_9 : decode cX8_run 9 = .ok (.if_icmp .eq 6, 3) := by decide +kernel
theorem dX8_run_12 : decode cX8_run 12 = .ok (.bipush (-2), 2) := by decide +kernel
theorem dX8_run_14 : decode cX8_run 14 = .ok (.ireturn, 1) := by decide +kernel
theorem dX8_run_15 : decode cX8_run 15 = .ok (.aload_n 0, 1) := by decide +kernel
theorem dX8_run_16 : decode cX8_run 16 = .ok (.getfield 19, 3) := by decide +kernel
theorem dX8_run_19 : decode cX8_run 19 = .ok (.aload_n 0, 1) := by decide +kernel
theorem dX8_run_20 : decode cX8_run 20 = .ok (.getfield 12, 3) := by decide +kernel
theorem dX8_run_23 : decode cX8_run 23 = .ok (.invokevirtual 55, 3) := by decide +kernel
theorem dX8_run_26 : decode cX8_run 26 = .ok (.aload_n 0, 1) := by decide +kernel
theorem dX8_run_27 : decode cX8_run 27 = .ok (.getfield 40, 3) := by decide +kernel
theorem dX8_run_30 : decode cX8_run 30 = .ok (.invokevirtual 139, 3) := by decide +kernel
theorem dX8_run_33 : decode cX8_run 33 = .ok (.iconst 0, 1) := by decide +kernel
theorem dX8_run_34 : decode cX8_run 34 = .ok (.istore_n 1, 1) := by decide +kernel
theorem dX8_run_35 : decode cX8_run 35 = .ok (.iconst 0, 1) := by decide +kernel
theorem dX8_run_36 : decode cX8_run 36 = .ok (.istore_n 2, 1) := by decide +kernel
theorem dX8_run_37 : decode cX8_run 37 = .ok (.iconst 0, 1) := by decide +kernel
theorem dX8_run_38 : decode cX8_run 38 = .ok (.istore_n 3, 1) := by decide +kernel
theorem dX8_run_39 : decode cX8_run 39 = .ok (.iload_n 3, 1) := by decide +kernel
theorem dX8_run_40 : decode cX8_run 40 = .ok (.bipush 60, 2) := by decide +kernel
theorem dX8_run_42 : decode cX8_run 42 = .ok (.if_icmp .ge 70, 3) := by decide +kernel
theorem dX8_run_45 : decode cX8_run 45 = .ok (.iload_n 1, 1) := by decide +kernel
theorem dX8_run_46 : decode cX8_run 46 = .ok (.aload_n 0, 1) := by decide +kernel
theorem dX8_run_47 : decode cX8_run 47 = .ok (.getfield 33, 3) := by decide +kernel
theorem dX8_run_50 : decode cX8_run 50 = .ok (.getfield 126, 3) := by decide +kernel
theorem dX8_run_53 : decode cX8_run 53 = .ok (.if_icmp .ge 59, 3) := by decide +kernel
theorem dX8_run_56 : decode cX8_run 56 = .ok (.aload_n 0, 1) := by decide +kernel
theorem dX8_run_57 : decode cX8_run 57 = .ok (.getfield 40, 3) := by decide +kernel
theorem dX8_run_60 : decode cX8_run 60 = .ok (.invokevirtual 142, 3) := by decide +kernel
theorem dX8_run_63 : decode cX8_run 63 = .ok (.ifCond .ne 49, 3) := by decide +kernel
theorem dX8_run_66 : decode cX8_run 66 = .ok (.aload_n 0, 1) := by decide +kernel
theorem dX8_run_67 : decode cX8_run 67 = .ok (.iload_n 1, 1) := by decide +kernel
theorem dX8_run_68 : decode cX8_run 68 = .ok (.invokevirtual 146, 3) := by decide +kernel
theorem dX8_run_71 : decode cX8_run 71 = .ok (.istore 4, 2) := by decide +kernel
theorem dX8_run_73 : decode cX8_run 73 = .ok (.iload 4, 2) := by decide +kernel
theorem dX8_run_75 : decode cX8_run 75 = .ok (.bipush 10, 2) := by decide +kernel
theorem dX8_run_77 : decode cX8_run 77 = .ok (.if_icmp .ge 17, 3) := by decide +kernel
theorem dX8_run_80 : decode cX8_run 80 = .ok (.aload_n 0, 1) := by decide +kernel
theorem dX8_run_81 : decode cX8_run 81 = .ok (.getfield 40, 3) := by decide +kernel
theorem dX8_run_84 : decode cX8_run 84 = .ok (.iload 4, 2) := by decide +kernel
theorem dX8_run_86 : decode cX8_run 86 = .ok (.iload_n 3, 1) := by decide +kernel
theorem dX8_run_87 : decode cX8_run 87 = .ok (.iload_n 1, 1) := by decide +kernel
theorem dX8_run_88 : decode cX8_run 88 = .ok (.invokevirtual 149, 3) := by decide +kernel
theorem dX8_run_91 : decode cX8_run 91 = .ok (.goto 15, 3) := by decide +kernel
theorem dX8_run_94 : decode cX8_run 94 = .ok (.iinc 2 1, 3) := by decide +kernel
theorem dX8_run_97 : decode cX8_run 97 = .ok (.aload_n 0, 1) := by decide +kernel
theorem dX8_run_98 : decode cX8_run 98 = .ok (.getfield 33, 3) := by decide +kernel
theorem dX8_run_101 : decode cX8_run 101 = .ok (.iload_n 1, 1) := by decide +kernel
theorem dX8_run_102 : decode cX8_run 102 = .ok (.invokevirtual 152, 3) := by decide +kernel
theorem dX8_run_105 : decode cX8_run 105 = .ok (.istore_n 1, 1) := by decide +kernel
theorem dX8_run_106 : decode cX8_run 106 = .ok (.iinc 3 1, 3) := by decide +kernel
theorem dX8_run_109 : decode cX8_run 109 = .ok (.goto (-70), 3) := by decide +kernel
theorem dX8_run_112 : decode cX8_run 112 = .ok (.aload_n 0, 1) := by decide +kernel
theorem dX8_run_113 : decode cX8_run 113 = .ok (.getfield 33, 3) := by decide +kernel
theorem dX8_run_116 : decode cX8_run 116 = .ok (.invokevirtual 132, 3) := by decide +kernel
theorem dX8_run_119 : decode cX8_run 119 = .ok (.pop, 1) := by decide +kernel
theorem dX8_run_120 : decode cX8_run 120 = .ok (.iload_n 2, 1) := by decide +kernel
theorem dX8_run_121 : decode cX8_run 121 = .ok (.ireturn, 1) := by decide +kernel
theorem dX8_why_0 : decode cX8_why 0 = .ok (.iload_n 1, 1) := by decide +kernel
theorem dX8_why_1 : decode cX8_why 1 = .ok (.tableswitch 96 0 2 #[27, 50, 73], 27) := by decide +kernel
theorem dX8_why_28 : decode cX8_why 28 = .ok (.aload_n 0, 1) := by decide +kernel
theorem dX8_why_29 : decode cX8_why 29 = .ok (.getfield 40, 3) := by decide +kernel
theorem dX8_why_32 : decode cX8_why 32 = .ok (.invokevirtual 142, 3) := by decide +kernel
theorem dX8_why_35 : decode cX8_why 35 = .ok (.ifCond .eq 13, 3) := by decide +kernel
theorem dX8_why_38 : decode cX8_why 38 = .ok (.aload_n 0, 1) := by decide +kernel
theorem dX8_why_39 : decode cX8_why 39 = .ok (.getfield 40, 3) := by decide +kernel
theorem dX8_why_42 : decode cX8_why 42 = .ok (.getfield 155, 3) := by decide +kernel
theorem dX8_why_45 : decode cX8_why 45 = .ok (.goto 5, 3) := by decide +kernel
theorem dX8_why_48 : decode cX8_why 48 = .ok (.bipush (-4), 2) := by decide +kernel
theorem dX8_why_50 : decode cX8_why 50 = .ok (.ireturn, 1) := by decide +kernel
theorem dX8_why_51 : decode cX8_why 51 = .ok (.aload_n 0, 1) := by decide +kernel
theorem dX8_why_52 : decode cX8_why 52 = .ok (.getfield 40, 3) := by decide +kernel
theorem dX8_why_55 : decode cX8_why 55 = .ok (.invokevirtual 142, 3) := by decide +kernel
theorem dX8_why_58 : decode cX8_why 58 = .ok (.ifCond .eq 13, 3) := by decide +kernel
theorem dX8_why_61 : decode cX8_why 61 = .ok (.aload_n 0, 1) := by decide +kernel
theorem dX8_why_62 : decode cX8_why 62 = .ok (.getfield 40, 3) := by decide +kernel
theorem dX8_why_65 : decode cX8_why 65 = .ok (.getfield 158, 3) := by decide +kernel
theorem dX8_why_68 : decode cX8_why 68 = .ok (.goto 5, 3) := by decide +kernel
theorem dX8_why_71 : decode cX8_why 71 = .ok (.bipush (-4), 2) := by decide +kernel
theorem dX8_why_73 : decode cX8_why 73 = .ok (.ireturn, 1) := by decide +kernel
theorem dX8_why_74 : decode cX8_why 74 = .ok (.aload_n 0, 1) := by decide +kernel
theorem dX8_why_75 : decode cX8_why 75 = .ok (.getfield 40, 3) := by decide +kernel
theorem dX8_why_78 : decode cX8_why 78 = .ok (.invokevirtual 142, 3) := by decide +kernel
theorem dX8_why_81 : decode cX8_why 81 = .ok (.ifCond .eq 13, 3) := by decide +kernel
theorem dX8_why_84 : decode cX8_why 84 = .ok (.aload_n 0, 1) := by decide +kernel
theorem dX8_why_85 : decode cX8_why 85 = .ok (.getfield 40, 3) := by decide +kernel
theorem dX8_why_88 : decode cX8_why 88 = .ok (.getfield 161, 3) := by decide +kernel
theorem dX8_why_91 : decode cX8_why 91 = .ok (.goto 5, 3) := by decide +kernel
theorem dX8_why_94 : decode cX8_why 94 = .ok (.bipush (-4), 2) := by decide +kernel
theorem dX8_why_96 : decode cX8_why 96 = .ok (.ireturn, 1) := by decide +kernel
theorem dX8_why_97 : decode cX8_why 97 = .ok (.iconst (-1), 1) := by decide +kernel
theorem dX8_why_98 : decode cX8_why 98 = .ok (.ireturn, 1) := by decide +kernel
theorem dX8_door_0 : decode cX8_door 0 = .ok (.iload_n 1, 1) := by decide +kernel
theorem dX8_door_1 : decode cX8_door 1 = .ok (.invokestatic 51, 3) := by decide +kernel
theorem dX8_door_4 : decode cX8_door 4 = .ok (.ifCond .ne 5, 3) := by decide +kernel
theorem dX8_door_7 : decode cX8_door 7 = .ok (.iconst (-1), 1) := by decide +kernel
theorem dX8_door_8 : decode cX8_door 8 = .ok (.ireturn, 1) := by decide +kernel
theorem dX8_door_9 : decode cX8_door 9 = .ok (.aload_n 0, 1) := by decide +kernel
theorem dX8_door_10 : decode cX8_door 10 = .ok (.getfield 12, 3) := by decide +kernel
theorem dX8_door_13 : decode cX8_door 13 = .ok (.getfield 66, 3) := by decide +kernel
theorem dX8_door_16 : decode cX8_door 16 = .ok (.astore_n 3, 1) := by decide +kernel
theorem dX8_door_17 : decode cX8_door 17 = .ok (.iload_n 2, 1) := by decide +kernel
theorem dX8_door_18 : decode cX8_door 18 = .ok (.tableswitch 175 0 9 #[54, 71, 77, 83, 93, 103, 127, 136, 149, 162], 54) := by decide +kernel
theorem dX8_door_72 : decode cX8_door 72 = .ok (.aload_n 0, 1) := by decide +kernel
theorem dX8_door_73 : decode cX8_door 73 = .ok (.getfield 12, 3) := by decide +kernel
theorem dX8_door_76 : decode cX8_door 76 = .ok (.iload_n 1, 1) := by decide +kernel
theorem dX8_door_77 : decode cX8_door 77 = .ok (.invokevirtual 83, 3) := by decide +kernel
theorem dX8_door_80 : decode cX8_door 80 = .ok (.ifCond .eq 7, 3) := by decide +kernel
theorem dX8_door_83 : decode cX8_door 83 = .ok (.iconst 1, 1) := by decide +kernel
theorem dX8_door_84 : decode cX8_door 84 = .ok (.goto 4, 3) := by decide +kernel
theorem dX8_door_87 : decode cX8_door 87 = .ok (.iconst 0, 1) := by decide +kernel
theorem dX8_door_88 : decode cX8_door 88 = .ok (.ireturn, 1) := by decide +kernel
theorem dX8_door_89 : decode cX8_door 89 = .ok (.aload_n 3, 1) := by decide +kernel
theorem dX8_door_90 : decode cX8_door 90 = .ok (.iload_n 1, 1) := by decide +kernel
theorem dX8_door_91 : decode cX8_door 91 = .ok (.invokevirtual 86, 3) := by decide +kernel
theorem dX8_door_94 : decode cX8_door 94 = .ok (.ireturn, 1) := by decide +kernel
theorem dX8_door_95 : decode cX8_door 95 = .ok (.aload_n 3, 1) := by decide +kernel
theorem dX8_door_96 : decode cX8_door 96 = .ok (.iload_n 1, 1) := by decide +kernel
theorem dX8_door_97 : decode cX8_door 97 = .ok (.invokevirtual 89, 3) := by decide +kernel
theorem dX8_door_100 : decode cX8_door 100 = .ok (.ireturn, 1) := by decide +kernel
theorem dX8_door_101 : decode cX8_door 101 = .ok (.aload_n 3, 1) := by decide +kernel
theorem dX8_door_102 : decode cX8_door 102 = .ok (.iload_n 1, 1) := by decide +kernel
theorem dX8_door_103 : decode cX8_door 103 = .ok (.iconst 0, 1) := by decide +kernel
theorem dX8_door_104 : decode cX8_door 104 = .ok (.invokevirtual 70, 3) := by decide +kernel
theorem dX8_door_107 : decode cX8_door 107 = .ok (.invokestatic 164, 3) := by decide +kernel
theorem dX8_door_110 : decode cX8_door 110 = .ok (.ireturn, 1) := by decide +kernel
theorem dX8_door_111 : decode cX8_door 111 = .ok (.aload_n 3, 1) := by decide +kernel
theorem dX8_door_112 : decode cX8_door 112 = .ok (.iload_n 1, 1) := by decide +kernel
theorem dX8_door_113 : decode cX8_door 113 = .ok (.iconst 1, 1) := by decide +kernel
theorem dX8_door_114 : decode cX8_door 114 = .ok (.invokevirtual 70, 3) := by decide +kernel
theorem dX8_door_117 : decode cX8_door 117 = .ok (.invokestatic 164, 3) := by decide +kernel
theorem dX8_door_120 : decode cX8_door 120 = .ok (.ireturn, 1) := by decide +kernel
theorem dX8_door_121 : decode cX8_door 121 = .ok (.aload_n 3, 1) := by decide +kernel
theorem dX8_door_122 : decode cX8_door 122 = .ok (.aload_n 0, 1) := by decide +kernel
theorem dX8_door_123 : decode cX8_door 123 = .ok (.getfield 12, 3) := by decide +kernel
theorem dX8_door_126 : decode cX8_door 126 = .ok (.getfield 167, 3) := by decide +kernel
theorem dX8_door_129 : decode cX8_door 129 = .ok (.invokevirtual 170, 3) := by decide +kernel
theorem dX8_door_132 : decode cX8_door 132 = .ok (.iload_n 1, 1) := by decide +kernel
theorem dX8_door_133 : decode cX8_door 133 = .ok (.invokestatic 173, 3) := by decide +kernel
theorem dX8_door_136 : decode cX8_door 136 = .ok (.ifCond .eq 7, 3) := by decide +kernel
theorem dX8_door_139 : decode cX8_door 139 = .ok (.iconst 1, 1) := by decide +kernel
theorem dX8_door_140 : decode cX8_door 140 = .ok (.goto 4, 3) := by decide +kernel
theorem dX8_door_143 : decode cX8_door 143 = .ok (.iconst 0, 1) := by decide +kernel
theorem dX8_door_144 : decode cX8_door 144 = .ok (.ireturn, 1) := by decide +kernel
theorem dX8_door_145 : decode cX8_door 145 = .ok (.aload_n 3, 1) := by decide +kernel
theorem dX8_door_146 : decode cX8_door 146 = .ok (.iload_n 1, 1) := by decide +kernel
theorem dX8_door_147 : decode cX8_door 147 = .ok (.sipush 1023, 3) := by decide +kernel
theorem dX8_door_150 : decode cX8_door 150 = .ok (.invokevirtual 177, 3) := by decide +kernel
theorem dX8_door_153 : decode cX8_door 153 = .ok (.ireturn, 1) := by decide +kernel
theorem dX8_door_154 : decode cX8_door 154 = .ok (.aload_n 3, 1) := by decide +kernel
theorem dX8_door_155 : decode cX8_door 155 = .ok (.iload_n 1, 1) := by decide +kernel
theorem dX8_door_156 : decode cX8_door 156 = .ok (.aload_n 0, 1) := by decide +kernel
theorem dX8_door_157 : decode cX8_door 157 = .ok (.getfield 12, 3) := by decide +kernel
theorem dX8_door_160 : decode cX8_door 160 = .ok (.getfield 167, 3) := by decide +kernel
theorem dX8_door_163 : decode cX8_door 163 = .ok (.invokevirtual 177, 3) := by decide +kernel
theorem dX8_door_166 : decode cX8_door 166 = .ok (.ireturn, 1) := by decide +kernel
theorem dX8_door_167 : decode cX8_door 167 = .ok (.aload_n 0, 1) := by decide +kernel
theorem dX8_door_168 : decode cX8_door 168 = .ok (.getfield 12, 3) := by decide +kernel
theorem dX8_door_171 : decode cX8_door 171 = .ok (.getfield 180, 3) := by decide +kernel
theorem dX8_door_174 : decode cX8_door 174 = .ok (.getfield 184, 3) := by decide +kernel
theorem dX8_door_177 : decode cX8_door 177 = .ok (.iload_n 1, 1) := by decide +kernel
theorem dX8_door_178 : decode cX8_door 178 = .ok (.iaload, 1) := by decide +kernel
theorem dX8_door_179 : decode cX8_door 179 = .ok (.ireturn, 1) := by decide +kernel
theorem dX8_door_180 : decode cX8_door 180 = .ok (.aload_n 0, 1) := by decide +kernel
theorem dX8_door_181 : decode cX8_door 181 = .ok (.getfield 12, 3) := by decide +kernel
theorem dX8_door_184 : decode cX8_door 184 = .ok (.getfield 180, 3) := by decide +kernel
theorem dX8_door_187 : decode cX8_door 187 = .ok (.getfield 189, 3) := by decide +kernel
theorem dX8_door_190 : decode cX8_door 190 = .ok (.iload_n 1, 1) := by decide +kernel
theorem dX8_door_191 : decode cX8_door 191 = .ok (.iaload, 1) := by decide +kernel
theorem dX8_door_192 : decode cX8_door 192 = .ok (.ireturn, 1) := by decide +kernel
theorem dX8_door_193 : decode cX8_door 193 = .ok (.iconst (-1), 1) := by decide +kernel
theorem dX8_door_194 : decode cX8_door 194 = .ok (.ireturn, 1) := by decide +kernel
theorem dX8_hall_0 : decode cX8_hall 0 = .ok (.iload_n 1, 1) := by decide +kernel
theorem dX8_hall_1 : decode cX8_hall 1 = .ok (.invokestatic 80, 3) := by decide +kernel
theorem dX8_hall_4 : decode cX8_hall 4 = .ok (.ifCond .ne 5, 3) := by decide +kernel
theorem dX8_hall_7 : decode cX8_hall 7 = .ok (.iconst (-1), 1) := by decide +kernel
theorem dX8_hall_8 : decode cX8_hall 8 = .ok (.ireturn, 1) := by decide +kernel
theorem dX8_hall_9 : decode cX8_hall 9 = .ok (.iload_n 2, 1) := by decide +kernel
theorem dX8_hall_10 : decode cX8_hall 10 = .ok (.tableswitch 102 0 3 #[30, 45, 68, 80], 30) := by decide +kernel
theorem dX8_hall_40 : decode cX8_hall 40 = .ok (.aload_n 0, 1) := by decide +kernel
theorem dX8_hall_41 : decode cX8_hall 41 = .ok (.getfield 12, 3) := by decide +kernel
theorem dX8_hall_44 : decode cX8_hall 44 = .ok (.getfield 66, 3) := by decide +kernel
theorem dX8_hall_47 : decode cX8_hall 47 = .ok (.iload_n 1, 1) := by decide +kernel
theorem dX8_hall_48 : decode cX8_hall 48 = .ok (.invokevirtual 192, 3) := by decide +kernel
theorem dX8_hall_51 : decode cX8_hall 51 = .ok (.invokestatic 195, 3) := by decide +kernel
theorem dX8_hall_54 : decode cX8_hall 54 = .ok (.ireturn, 1) := by decide +kernel
theorem dX8_hall_55 : decode cX8_hall 55 = .ok (.aload_n 0, 1) := by decide +kernel
theorem dX8_hall_56 : decode cX8_hall 56 = .ok (.getfield 12, 3) := by decide +kernel
theorem dX8_hall_59 : decode cX8_hall 59 = .ok (.getfield 66, 3) := by decide +kernel
theorem dX8_hall_62 : decode cX8_hall 62 = .ok (.iload_n 1, 1) := by decide +kernel
theorem dX8_hall_63 : decode cX8_hall 63 = .ok (.invokevirtual 192, 3) := by decide +kernel
theorem dX8_hall_66 : decode cX8_hall 66 = .ok (.aload_n 0, 1) := by decide +kernel
theorem dX8_hall_67 : decode cX8_hall 67 = .ok (.getfield 12, 3) := by decide +kernel
theorem dX8_hall_70 : decode cX8_hall 70 = .ok (.getfield 167, 3) := by decide +kernel
theorem dX8_hall_73 : decode cX8_hall 73 = .ok (.iand, 1) := by decide +kernel
theorem dX8_hall_74 : decode cX8_hall 74 = .ok (.invokestatic 195, 3) := by decide +kernel
theorem dX8_hall_77 : decode cX8_hall 77 = .ok (.ireturn, 1) := by decide +kernel
theorem dX8_hall_78 : decode cX8_hall 78 = .ok (.aload_n 0, 1) := by decide +kernel
theorem dX8_hall_79 : decode cX8_hall 79 = .ok (.getfield 12, 3) := by decide +kernel
theorem dX8_hall_82 : decode cX8_hall 82 = .ok (.getfield 102, 3) := by decide +kernel
theorem dX8_hall_85 : decode cX8_hall 85 = .ok (.iload_n 1, 1) := by decide +kernel
theorem dX8_hall_86 : decode cX8_hall 86 = .ok (.invokevirtual 200, 3) := by decide +kernel
theorem dX8_hall_89 : decode cX8_hall 89 = .ok (.ireturn, 1) := by decide +kernel
theorem dX8_hall_90 : decode cX8_hall 90 = .ok (.aload_n 0, 1) := by decide +kernel
theorem dX8_hall_91 : decode cX8_hall 91 = .ok (.getfield 12, 3) := by decide +kernel
theorem dX8_hall_94 : decode cX8_hall 94 = .ok (.getfield 66, 3) := by decide +kernel
theorem dX8_hall_97 : decode cX8_hall 97 = .ok (.iload_n 1, 1) := by decide +kernel
theorem dX8_hall_98 : decode cX8_hall 98 = .ok (.aload_n 0, 1) := by decide +kernel
theorem dX8_hall_99 : decode cX8_hall 99 = .ok (.getfield 12, 3) := by decide +kernel
theorem dX8_hall_102 : decode cX8_hall 102 = .ok (.getfield 167, 3) := by decide +kernel
theorem dX8_hall_105 : decode cX8_hall 105 = .ok (.invokevirtual 203, 3) := by decide +kernel
theorem dX8_hall_108 : decode cX8_hall 108 = .ok (.invokestatic 195, 3) := by decide +kernel
theorem dX8_hall_111 : decode cX8_hall 111 = .ok (.ireturn, 1) := by decide +kernel
theorem dX8_hall_112 : decode cX8_hall 112 = .ok (.iconst (-1), 1) := by decide +kernel
theorem dX8_hall_113 : decode cX8_hall 113 = .ok (.ireturn, 1) := by decide +kernel
theorem dX8_guest_0 : decode cX8_guest 0 = .ok (.iload_n 1, 1) := by decide +kernel
theorem dX8_guest_1 : decode cX8_guest 1 = .ok (.invokestatic 96, 3) := by decide +kernel
theorem dX8_guest_4 : decode cX8_guest 4 = .ok (.ifCond .ne 5, 3) := by decide +kernel
theorem dX8_guest_7 : decode cX8_guest 7 = .ok (.iconst (-1), 1) := by decide +kernel
theorem dX8_guest_8 : decode cX8_guest 8 = .ok (.ireturn, 1) := by decide +kernel
theorem dX8_guest_9 : decode cX8_guest 9 = .ok (.iload_n 2, 1) := by decide +kernel
theorem dX8_guest_10 : decode cX8_guest 10 = .ok (.tableswitch 78 0 3 #[30, 43, 56, 65], 30) := by decide +kernel
theorem dX8_guest_40 : decode cX8_guest 40 = .ok (.aload_n 0, 1) := by decide +kernel
theorem dX8_guest_41 : decode cX8_guest 41 = .ok (.getfield 12, 3) := by decide +kernel
theorem dX8_guest_44 : decode cX8_guest 44 = .ok (.getfield 102, 3) := by decide +kernel
theorem dX8_guest_47 : decode cX8_guest 47 = .ok (.getfield 206, 3) := by decide +kernel
theorem dX8_guest_50 : decode cX8_guest 50 = .ok (.iload_n 1, 1) := by decide +kernel
theorem dX8_guest_51 : decode cX8_guest 51 = .ok (.iaload, 1) := by decide +kernel
theorem dX8_guest_52 : decode cX8_guest 52 = .ok (.ireturn, 1) := by decide +kernel
theorem dX8_guest_53 : decode cX8_guest 53 = .ok (.aload_n 0, 1) := by decide +kernel
theorem dX8_guest_54 : decode cX8_guest 54 = .ok (.getfield 12, 3) := by decide +kernel
theorem dX8_guest_57 : decode cX8_guest 57 = .ok (.getfield 102, 3) := by decide +kernel
theorem dX8_guest_60 : decode cX8_guest 60 = .ok (.getfield 106, 3) := by decide +kernel
theorem dX8_guest_63 : decode cX8_guest 63 = .ok (.iload_n 1, 1) := by decide +kernel
theorem dX8_guest_64 : decode cX8_guest 64 = .ok (.iaload, 1) := by decide +kernel
theorem dX8_guest_65 : decode cX8_guest 65 = .ok (.ireturn, 1) := by decide +kernel
theorem dX8_guest_66 : decode cX8_guest 66 = .ok (.aload_n 0, 1) := by decide +kernel
theorem dX8_guest_67 : decode cX8_guest 67 = .ok (.getfield 12, 3) := by decide +kernel
theorem dX8_guest_70 : decode cX8_guest 70 = .ok (.iload_n 1, 1) := by decide +kernel
theorem dX8_guest_71 : decode cX8_guest 71 = .ok (.invokevirtual 209, 3) := by decide +kernel
theorem dX8_guest_74 : decode cX8_guest 74 = .ok (.ireturn, 1) := by decide +kernel
theorem dX8_guest_75 : decode cX8_guest 75 = .ok (.aload_n 0, 1) := by decide +kernel
theorem dX8_guest_76 : decode cX8_guest 76 = .ok (.getfield 12, 3) := by decide +kernel
theorem dX8_guest_79 : decode cX8_guest 79 = .ok (.getfield 102, 3) := by decide +kernel
theorem dX8_guest_82 : decode cX8_guest 82 = .ok (.getfield 212, 3) := by decide +kernel
theorem dX8_guest_85 : decode cX8_guest 85 = .ok (.iload_n 1, 1) := by decide +kernel
theorem dX8_guest_86 : decode cX8_guest 86 = .ok (.iaload, 1) := by decide +kernel
theorem dX8_guest_87 : decode cX8_guest 87 = .ok (.ireturn, 1) := by decide +kernel
theorem dX8_guest_88 : decode cX8_guest 88 = .ok (.iconst (-1), 1) := by decide +kernel
theorem dX8_guest_89 : decode cX8_guest 89 = .ok (.ireturn, 1) := by decide +kernel
theorem dX8_whyNot_0 : decode cX8_whyNot 0 = .ok (.iload_n 1, 1) := by decide +kernel
theorem dX8_whyNot_1 : decode cX8_whyNot 1 = .ok (.invokestatic 51, 3) := by decide +kernel
theorem dX8_whyNot_4 : decode cX8_whyNot 4 = .ok (.ifCond .eq 14, 3) := by decide +kernel
theorem dX8_whyNot_7 : decode cX8_whyNot 7 = .ok (.aload_n 0, 1) := by decide +kernel
theorem dX8_whyNot_8 : decode cX8_whyNot 8 = .ok (.getfield 12, 3) := by decide +kernel
theorem dX8_whyNot_11 : decode cX8_whyNot 11 = .ok (.iload_n 1, 1) := by decide +kernel
theorem dX8_whyNot_12 : decode cX8_whyNot 12 = .ok (.invokevirtual 215, 3) := by decide +kernel
theorem dX8_whyNot_15 : decode cX8_whyNot 15 = .ok (.goto 4, 3) := by decide +kernel
theorem dX8_whyNot_18 : decode cX8_whyNot 18 = .ok (.iconst (-1), 1) := by decide +kernel
theorem dX8_whyNot_19 : decode cX8_whyNot 19 = .ok (.ireturn, 1) := by decide +kernel
theorem dX8_together_0 : decode cX8_together 0 = .ok (.iload_n 1, 1) := by decide +kernel
theorem dX8_together_1 : decode cX8_together 1 = .ok (.lookupswitch 45 #[(0, 27), (1, 32)], 27) := by decide +kernel
theorem dX8_together_28 : decode cX8_together 28 = .ok (.aload_n 0, 1) := by decide +kernel
theorem dX8_together_29 : decode cX8_together 29 = .ok (.invokevirtual 218, 3) := by decide +kernel
theorem dX8_together_32 : decode cX8_together 32 = .ok (.ireturn, 1) := by decide +kernel
theorem dX8_together_33 : decode cX8_together 33 = .ok (.aload_n 0, 1) := by decide +kernel
theorem dX8_together_34 : decode cX8_together 34 = .ok (.getfield 12, 3) := by decide +kernel
theorem dX8_together_37 : decode cX8_together 37 = .ok (.getfield 66, 3) := by decide +kernel
theorem dX8_together_40 : decode cX8_together 40 = .ok (.iconst 0, 1) := by decide +kernel
theorem dX8_together_41 : decode cX8_together 41 = .ok (.iconst 0, 1) := by decide +kernel
theorem dX8_together_42 : decode cX8_together 42 = .ok (.invokestatic 221, 3) := by decide +kernel
theorem dX8_together_45 : decode cX8_together 45 = .ok (.ireturn, 1) := by decide +kernel
theorem dX8_together_46 : decode cX8_together 46 = .ok (.iconst (-1), 1) := by decide +kernel
theorem dX8_together_47 : decode cX8_together 47 = .ok (.ireturn, 1) := by decide +kernel
theorem dX8_can_0 : decode cX8_can 0 = .ok (.iload_n 1, 1) := by decide +kernel
theorem dX8_can_1 : decode cX8_can 1 = .ok (.invokestatic 99, 3) := by decide +kernel
theorem dX8_can_4 : decode cX8_can 4 = .ok (.ifCond .ne 5, 3) := by decide +kernel
theorem dX8_can_7 : decode cX8_can 7 = .ok (.iconst (-1), 1) := by decide +kernel
theorem dX8_can_8 : decode cX8_can 8 = .ok (.ireturn, 1) := by decide +kernel
theorem dX8_can_9 : decode cX8_can 9 = .ok (.aload_n 0, 1) := by decide +kernel
theorem dX8_can_10 : decode cX8_can 10 = .ok (.getfield 12, 3) := by decide +kernel
theorem dX8_can_13 : decode cX8_can 13 = .ok (.getfield 66, 3) := by decide +kernel
theorem dX8_can_16 : decode cX8_can 16 = .ok (.iload_n 1, 1) := by decide +kernel
theorem dX8_can_17 : decode cX8_can 17 = .ok (.invokevirtual 225, 3) := by decide +kernel
theorem dX8_can_20 : decode cX8_can 20 = .ok (.ifCond .eq 7, 3) := by decide +kernel
theorem dX8_can_23 : decode cX8_can 23 = .ok (.iconst 1, 1) := by decide +kernel
theorem dX8_can_24 : decode cX8_can 24 = .ok (.goto 4, 3) := by decide +kernel
theorem dX8_can_27 : decode cX8_can 27 = .ok (.iconst 0, 1) := by decide +kernel
theorem dX8_can_28 : decode cX8_can 28 = .ok (.ireturn, 1) := by decide +kernel
theorem dX8_deeds_0 : decode cX8_deeds 0 = .ok (.iload_n 1, 1) := by decide +kernel
theorem dX8_deeds_1 : decode cX8_deeds 1 = .ok (.invokestatic 96, 3) := by decide +kernel
theorem dX8_deeds_4 : decode cX8_deeds 4 = .ok (.ifCond .eq 10, 3) := by decide +kernel
theorem dX8_deeds_7 : decode cX8_deeds 7 = .ok (.iload_n 2, 1) := by decide +kernel
theorem dX8_deeds_8 : decode cX8_deeds 8 = .ok (.invokestatic 80, 3) := by decide +kernel
theorem dX8_deeds_11 : decode cX8_deeds 11 = .ok (.ifCond .ne 5, 3) := by decide +kernel
theorem dX8_deeds_14 : decode cX8_deeds 14 = .ok (.iconst (-1), 1) := by decide +kernel
theorem dX8_deeds_15 : decode cX8_deeds 15 = .ok (.ireturn, 1) := by decide +kernel
theorem dX8_deeds_16 : decode cX8_deeds 16 = .ok (.aload_n 0, 1) := by decide +kernel
theorem dX8_deeds_17 : decode cX8_deeds 17 = .ok (.getfield 12, 3) := by decide +kernel
theorem dX8_deeds_20 : decode cX8_deeds 20 = .ok (.getfield 167, 3) := by decide +kernel
theorem dX8_deeds_23 : decode cX8_deeds 23 = .ok (.aload_n 0, 1) := by decide +kernel
theorem dX8_deeds_24 : decode cX8_deeds 24 = .ok (.getfield 12, 3) := by decide +kernel
theorem dX8_deeds_27 : decode cX8_deeds 27 = .ok (.getfield 102, 3) := by decide +kernel
theorem dX8_deeds_30 : decode cX8_deeds 30 = .ok (.getfield 206, 3) := by decide +kernel
theorem dX8_deeds_33 : decode cX8_deeds 33 = .ok (.iload_n 1, 1) := by decide +kernel
theorem dX8_deeds_34 : decode cX8_deeds 34 = .ok (.iaload, 1) := by decide +kernel
theorem dX8_deeds_35 : decode cX8_deeds 35 = .ok (.invokestatic 228, 3) := by decide +kernel
theorem dX8_deeds_38 : decode cX8_deeds 38 = .ok (.istore 4, 2) := by decide +kernel
theorem dX8_deeds_40 : decode cX8_deeds 40 = .ok (.aload_n 0, 1) := by decide +kernel
theorem dX8_deeds_41 : decode cX8_deeds 41 = .ok (.getfield 12, 3) := by decide +kernel
theorem dX8_deeds_44 : decode cX8_deeds 44 = .ok (.getfield 102, 3) := by decide +kernel
theorem dX8_deeds_47 : decode cX8_deeds 47 = .ok (.getfield 106, 3) := by decide +kernel
theorem dX8_deeds_50 : decode cX8_deeds 50 = .ok (.iload_n 1, 1) := by decide +kernel
theorem dX8_deeds_51 : decode cX8_deeds 51 = .ok (.iaload, 1) := by decide +kernel
theorem dX8_deeds_52 : decode cX8_deeds 52 = .ok (.istore 5, 2) := by decide +kernel
theorem dX8_deeds_54 : decode cX8_deeds 54 = .ok (.iload_n 3, 1) := by decide +kernel
theorem dX8_deeds_55 : decode cX8_deeds 55 = .ok (.lookupswitch 65 #[(0, 25), (1, 45)], 25) := by decide +kernel
theorem dX8_deeds_80 : decode cX8_deeds 80 = .ok (.aload_n 0, 1) := by decide +kernel
theorem dX8_deeds_81 : decode cX8_deeds 81 = .ok (.getfield 47, 3) := by decide +kernel
theorem dX8_deeds_84 : decode cX8_deeds 84 = .ok (.aload_n 0, 1) := by decide +kernel
theorem dX8_deeds_85 : decode cX8_deeds 85 = .ok (.getfield 12, 3) := by decide +kernel
theorem dX8_deeds_88 : decode cX8_deeds 88 = .ok (.getfield 66, 3) := by decide +kernel
theorem dX8_deeds_91 : decode cX8_deeds 91 = .ok (.iload 4, 2) := by decide +kernel
theorem dX8_deeds_93 : decode cX8_deeds 93 = .ok (.iload 5, 2) := by decide +kernel
theorem dX8_deeds_95 : decode cX8_deeds 95 = .ok (.iload_n 2, 1) := by decide +kernel
theorem dX8_deeds_96 : decode cX8_deeds 96 = .ok (.invokevirtual 231, 3) := by decide +kernel
theorem dX8_deeds_99 : decode cX8_deeds 99 = .ok (.ireturn, 1) := by decide +kernel
theorem dX8_deeds_100 : decode cX8_deeds 100 = .ok (.aload_n 0, 1) := by decide +kernel
theorem dX8_deeds_101 : decode cX8_deeds 101 = .ok (.getfield 47, 3) := by decide +kernel
theorem dX8_deeds_104 : decode cX8_deeds 104 = .ok (.aload_n 0, 1) := by decide +kernel
theorem dX8_deeds_105 : decode cX8_deeds 105 = .ok (.getfield 12, 3) := by decide +kernel
theorem dX8_deeds_108 : decode cX8_deeds 108 = .ok (.getfield 66, 3) := by decide +kernel
theorem dX8_deeds_111 : decode cX8_deeds 111 = .ok (.iload 4, 2) := by decide +kernel
theorem dX8_deeds_113 : decode cX8_deeds 113 = .ok (.iload 5, 2) := by decide +kernel
theorem dX8_deeds_115 : decode cX8_deeds 115 = .ok (.iload_n 2, 1) := by decide +kernel
theorem dX8_deeds_116 : decode cX8_deeds 116 = .ok (.invokevirtual 235, 3) := by decide +kernel
theorem dX8_deeds_119 : decode cX8_deeds 119 = .ok (.ireturn, 1) := by decide +kernel
theorem dX8_deeds_120 : decode cX8_deeds 120 = .ok (.iconst (-1), 1) := by decide +kernel
theorem dX8_deeds_121 : decode cX8_deeds 121 = .ok (.ireturn, 1) := by decide +kernel
theorem dX8_count_0 : decode cX8_count 0 = .ok (.aload_n 0, 1) := by decide +kernel
theorem dX8_count_1 : decode cX8_count 1 = .ok (.getfield 12, 3) := by decide +kernel
theorem dX8_count_4 : decode cX8_count 4 = .ok (.getfield 66, 3) := by decide +kernel
theorem dX8_count_7 : decode cX8_count 7 = .ok (.astore_n 2, 1) := by decide +kernel
theorem dX8_count_8 : decode cX8_count 8 = .ok (.aload_n 0, 1) := by decide +kernel
theorem dX8_count_9 : decode cX8_count 9 = .ok (.getfield 12, 3) := by decide +kernel
theorem dX8_count_12 : decode cX8_count 12 = .ok (.getfield 180, 3) := by decide +kernel
theorem dX8_count_15 : decode cX8_count 15 = .ok (.astore_n 3, 1) := by decide +kernel
theorem dX8_count_16 : decode cX8_count 16 = .ok (.iload_n 1, 1) := by decide +kernel
theorem dX8_count_17 : decode cX8_count 17 = .ok (.tableswitch 196 0 14 #[75, 83, 94, 106, 118, 133, 145, 150, 155, 160, 165, 170, 175, 180, 188], 75) := by decide +kernel
theorem dX8_count_92 : decode cX8_count 92 = .ok (.aload_n 0, 1) := by decide +kernel
theorem dX8_count_93 : decode cX8_count 93 = .ok (.getfield 12, 3) := by decide +kernel
theorem dX8_count_96 : decode cX8_count 96 = .ok (.getfield 167, 3) := by decide +kernel
theorem dX8_count_99 : decode cX8_count 99 = .ok (.ireturn, 1) := by decide +kernel
theorem dX8_count_100 : decode cX8_count 100 = .ok (.aload_n 0, 1) := by decide +kernel
theorem dX8_count_101 : decode cX8_count 101 = .ok (.getfield 12, 3) := by decide +kernel
theorem dX8_count_104 : decode cX8_count 104 = .ok (.getfield 167, 3) := by decide +kernel
theorem dX8_count_107 : decode cX8_count 107 = .ok (.invokestatic 195, 3) := by decide +kernel
theorem dX8_count_110 : decode cX8_count 110 = .ok (.ireturn, 1) := by decide +kernel
theorem dX8_count_111 : decode cX8_count 111 = .ok (.aload_n 2, 1) := by decide +kernel
theorem dX8_count_112 : decode cX8_count 112 = .ok (.aload_n 0, 1) := by decide +kernel
theorem dX8_count_113 : decode cX8_count 113 = .ok (.getfield 12, 3) := by decide +kernel
theorem dX8_count_116 : decode cX8_count 116 = .ok (.getfield 167, 3) := by decide +kernel
theorem dX8_count_119 : decode cX8_count 119 = .ok (.invokevirtual 238, 3) := by decide +kernel
theorem dX8_count_122 : decode cX8_count 122 = .ok (.ireturn, 1) := by decide +kernel
theorem dX8_count_123 : decode cX8_count 123 = .ok (.aload_n 2, 1) := by decide +kernel
theorem dX8_count_124 : decode cX8_count 124 = .ok (.aload_n 0, 1) := by decide +kernel
theorem dX8_count_125 : decode cX8_count 125 = .ok (.getfield 12, 3) := by decide +kernel
theorem dX8_count_128 : decode cX8_count 128 = .ok (.invokevirtual 241, 3) := by decide +kernel
theorem dX8_count_131 : decode cX8_count 131 = .ok (.invokevirtual 238, 3) := by decide +kernel
theorem dX8_count_134 : decode cX8_count 134 = .ok (.ireturn, 1) := by decide +kernel
theorem dX8_count_135 : decode cX8_count 135 = .ok (.aload_n 2, 1) := by decide +kernel
theorem dX8_count_136 : decode cX8_count 136 = .ok (.aload_n 0, 1) := by decide +kernel
theorem dX8_count_137 : decode cX8_count 137 = .ok (.getfield 12, 3) := by decide +kernel
theorem dX8_count_140 : decode cX8_count 140 = .ok (.getfield 167, 3) := by decide +kernel
theorem dX8_count_143 : decode cX8_count 143 = .ok (.invokevirtual 170, 3) := by decide +kernel
theorem dX8_count_146 : decode cX8_count 146 = .ok (.invokestatic 195, 3) := by decide +kernel
theorem dX8_count_149 : decode cX8_count 149 = .ok (.ireturn, 1) := by decide +kernel
theorem dX8_count_150 : decode cX8_count 150 = .ok (.aload_n 2, 1) := by decide +kernel
theorem dX8_count_151 : decode cX8_count 151 = .ok (.aload_n 0, 1) := by decide +kernel
theorem dX8_count_152 : decode cX8_count 152 = .ok (.getfield 12, 3) := by decide +kernel
theorem dX8_count_155 : decode cX8_count 155 = .ok (.getfield 167, 3) := by decide +kernel
theorem dX8_count_158 : decode cX8_count 158 = .ok (.invokevirtual 244, 3) := by decide +kernel
theorem dX8_count_161 : decode cX8_count 161 = .ok (.ireturn, 1) := by decide +kernel
theorem dX8_count_162 : decode cX8_count 162 = .ok (.aload_n 2, 1) := by decide +kernel
theorem dX8_count_163 : decode cX8_count 163 = .ok (.invokevirtual 247, 3) := by decide +kernel
theorem dX8_count_166 : decode cX8_count 166 = .ok (.ireturn, 1) := by decide +kernel
theorem dX8_count_167 : decode cX8_count 167 = .ok (.aload_n 3, 1) := by decide +kernel
theorem dX8_count_168 : decode cX8_count 168 = .ok (.getfield 250, 3) := by decide +kernel
theorem dX8_count_171 : decode cX8_count 171 = .ok (.ireturn, 1) := by decide +kernel
theorem dX8_count_172 : decode cX8_count 172 = .ok (.aload_n 3, 1) := by decide +kernel
theorem dX8_count_173 : decode cX8_count 173 = .ok (.getfield 253, 3) := by decide +kernel
theorem dX8_count_176 : decode cX8_count 176 = .ok (.ireturn, 1) := by decide +kernel
theorem dX8_count_177 : decode cX8_count 177 = .ok (.aload_n 3, 1) := by decide +kernel
theorem dX8_count_178 : decode cX8_count 178 = .ok (.getfield 256, 3) := by decide +kernel
theorem dX8_count_181 : decode cX8_count 181 = .ok (.ireturn, 1) := by decide +kernel
theorem dX8_count_182 : decode cX8_count 182 = .ok (.aload_n 3, 1) := by decide +kernel
theorem dX8_count_183 : decode cX8_count 183 = .ok (.getfield 259, 3) := by decide +kernel
theorem dX8_count_186 : decode cX8_count 186 = .ok (.ireturn, 1) := by decide +kernel
theorem dX8_count_187 : decode cX8_count 187 = .ok (.aload_n 3, 1) := by decide +kernel
theorem dX8_count_188 : decode cX8_count 188 = .ok (.getfield 262, 3) := by decide +kernel
theorem dX8_count_191 : decode cX8_count 191 = .ok (.ireturn, 1) := by decide +kernel
theorem dX8_count_192 : decode cX8_count 192 = .ok (.aload_n 2, 1) := by decide +kernel
theorem dX8_count_193 : decode cX8_count 193 = .ok (.getfield 112, 3) := by decide +kernel
theorem dX8_count_196 : decode cX8_count 196 = .ok (.ireturn, 1) := by decide +kernel
theorem dX8_count_197 : decode cX8_count 197 = .ok (.aload_n 0, 1) := by decide +kernel
theorem dX8_count_198 : decode cX8_count 198 = .ok (.getfield 33, 3) := by decide +kernel
theorem dX8_count_201 : decode cX8_count 201 = .ok (.getfield 126, 3) := by decide +kernel
theorem dX8_count_204 : decode cX8_count 204 = .ok (.ireturn, 1) := by decide +kernel
theorem dX8_count_205 : decode cX8_count 205 = .ok (.aload_n 0, 1) := by decide +kernel
theorem dX8_count_206 : decode cX8_count 206 = .ok (.getfield 19, 3) := by decide +kernel
theorem dX8_count_209 : decode cX8_count 209 = .ok (.getfield 265, 3) := by decide +kernel
theorem dX8_count_212 : decode cX8_count 212 = .ok (.ireturn, 1) := by decide +kernel
theorem dX8_count_213 : decode cX8_count 213 = .ok (.iconst (-1), 1) := by decide +kernel
theorem dX8_count_214 : decode cX8_count 214 = .ok (.ireturn, 1) := by decide +kernel
theorem dX8_tightness_0 : decode cX8_tightness 0 = .ok (.aload_n 0, 1) := by decide +kernel
theorem dX8_tightness_1 : decode cX8_tightness 1 = .ok (.getfield 12, 3) := by decide +kernel
theorem dX8_tightness_4 : decode cX8_tightness 4 = .ok (.getfield 66, 3) := by decide +kernel
theorem dX8_tightness_7 : decode cX8_tightness 7 = .ok (.sipush 1023, 3) := by decide +kernel
theorem dX8_tightness_10 : decode cX8_tightness 10 = .ok (.invokevirtual 238, 3) := by decide +kernel
theorem dX8_tightness_13 : decode cX8_tightness 13 = .ok (.istore_n 1, 1) := by decide +kernel
theorem dX8_tightness_14 : decode cX8_tightness 14 = .ok (.iload_n 1, 1) := by decide +kernel
theorem dX8_tightness_15 : decode cX8_tightness 15 = .ok (.ifCond .ne 7, 3) := by decide +kernel
theorem dX8_tightness_18 : decode cX8_tightness 18 = .ok (.dconst 0, 1) := by decide +kernel
theorem dX8_tightness_19 : decode cX8_tightness 19 = .ok (.goto 24, 3) := by decide +kernel
theorem dX8_tightness_22 : decode cX8_tightness 22 = .ok (.aload_n 0, 1) := by decide +kernel
theorem dX8_tightness_23 : decode cX8_tightness 23 = .ok (.getfield 12, 3) := by decide +kernel
theorem dX8_tightness_26 : decode cX8_tightness 26 = .ok (.getfield 66, 3) := by decide +kernel
theorem dX8_tightness_29 : decode cX8_tightness 29 = .ok (.aload_n 0, 1) := by decide +kernel
theorem dX8_tightness_30 : decode cX8_tightness 30 = .ok (.getfield 12, 3) := by decide +kernel
theorem dX8_tightness_33 : decode cX8_tightness 33 = .ok (.getfield 167, 3) := by decide +kernel
theorem dX8_tightness_36 : decode cX8_tightness 36 = .ok (.invokevirtual 238, 3) := by decide +kernel
theorem dX8_tightness_39 : decode cX8_tightness 39 = .ok (.i2d, 1) := by decide +kernel
theorem dX8_tightness_40 : decode cX8_tightness 40 = .ok (.iload_n 1, 1) := by decide +kernel
theorem dX8_tightness_41 : decode cX8_tightness 41 = .ok (.i2d, 1) := by decide +kernel
theorem dX8_tightness_42 : decode cX8_tightness 42 = .ok (.ddiv, 1) := by decide +kernel
theorem dX8_tightness_43 : decode cX8_tightness 43 = .ok (.dreturn, 1) := by decide +kernel
theorem dX8_ifOpened_0 : decode cX8_ifOpened 0 = .ok (.iload_n 1, 1) := by decide +kernel
theorem dX8_ifOpened_1 : decode cX8_ifOpened 1 = .ok (.invokestatic 51, 3) := by decide +kernel
theorem dX8_ifOpened_4 : decode cX8_ifOpened 4 = .ok (.ifCond .ne 5, 3) := by decide +kernel
theorem dX8_ifOpened_7 : decode cX8_ifOpened 7 = .ok (.iconst (-1), 1) := by decide +kernel
theorem dX8_ifOpened_8 : decode cX8_ifOpened 8 = .ok (.ireturn, 1) := by decide +kernel
theorem dX8_ifOpened_9 : decode cX8_ifOpened 9 = .ok (.aload_n 0, 1) := by decide +kernel
theorem dX8_ifOpened_10 : decode cX8_ifOpened 10 = .ok (.getfield 12, 3) := by decide +kernel
theorem dX8_ifOpened_13 : decode cX8_ifOpened 13 = .ok (.getfield 167, 3) := by decide +kernel
theorem dX8_ifOpened_16 : decode cX8_ifOpened 16 = .ok (.istore_n 3, 1) := by decide +kernel
theorem dX8_ifOpened_17 : decode cX8_ifOpened 17 = .ok (.aload_n 0, 1) := by decide +kernel
theorem dX8_ifOpened_18 : decode cX8_ifOpened 18 = .ok (.getfield 12, 3) := by decide +kernel
theorem dX8_ifOpened_21 : decode cX8_ifOpened 21 = .ok (.iload_n 1, 1) := by decide +kernel
theorem dX8_ifOpened_22 : decode cX8_ifOpened 22 = .ok (.invokevirtual 215, 3) := by decide +kernel
theorem dX8_ifOpened_25 : decode cX8_ifOpened 25 = .ok (.ifCond .eq 7, 3) := by decide +kernel
theorem dX8_ifOpened_28 : decode cX8_ifOpened 28 = .ok (.iconst 1, 1) := by decide +kernel
theorem dX8_ifOpened_29 : decode cX8_ifOpened 29 = .ok (.goto 4, 3) := by decide +kernel
theorem dX8_ifOpened_32 : decode cX8_ifOpened 32 = .ok (.iconst 0, 1) := by decide +kernel
theorem dX8_ifOpened_33 : decode cX8_ifOpened 33 = .ok (.istore 4, 2) := by decide +kernel
theorem dX8_ifOpened_35 : decode cX8_ifOpened 35 = .ok (.iload 4, 2) := by decide +kernel
theorem dX8_ifOpened_37 : decode cX8_ifOpened 37 = .ok (.ifCond .eq 7, 3) := by decide +kernel
theorem dX8_ifOpened_40 : decode cX8_ifOpened 40 = .ok (.iload_n 3, 1) := by decide +kernel
theorem dX8_ifOpened_41 : decode cX8_ifOpened 41 = .ok (.goto 15, 3) := by decide +kernel
theorem dX8_ifOpened_44 : decode cX8_ifOpened 44 = .ok (.aload_n 0, 1) := by decide +kernel
theorem dX8_ifOpened_45 : decode cX8_ifOpened 45 = .ok (.getfield 12, 3) := by decide +kernel
theorem dX8_ifOpened_48 : decode cX8_ifOpened 48 = .ok (.getfield 66, 3) := by decide +kernel
theorem dX8_ifOpened_51 : decode cX8_ifOpened 51 = .ok (.iload_n 3, 1) := by decide +kernel
theorem dX8_ifOpened_52 : decode cX8_ifOpened 52 = .ok (.iload_n 1, 1) := by decide +kernel
theorem dX8_ifOpened_53 : decode cX8_ifOpened 53 = .ok (.invokevirtual 268, 3) := by decide +kernel
theorem dX8_ifOpened_56 : decode cX8_ifOpened 56 = .ok (.istore 5, 2) := by decide +kernel
theorem dX8_ifOpened_58 : decode cX8_ifOpened 58 = .ok (.iload 4, 2) := by decide +kernel
theorem dX8_ifOpened_60 : decode cX8_ifOpened 60 = .ok (.ifCond .eq 7, 3) := by decide +kernel
theorem dX8_ifOpened_63 : decode cX8_ifOpened 63 = .ok (.iload_n 3, 1) := by decide +kernel
theorem dX8_ifOpened_64 : decode cX8_ifOpened 64 = .ok (.goto 16, 3) := by decide +kernel
theorem dX8_ifOpened_67 : decode cX8_ifOpened 67 = .ok (.aload_n 0, 1) := by decide +kernel
theorem dX8_ifOpened_68 : decode cX8_ifOpened 68 = .ok (.getfield 12, 3) := by decide +kernel
theorem dX8_ifOpened_71 : decode cX8_ifOpened 71 = .ok (.getfield 66, 3) := by decide +kernel
theorem dX8_ifOpened_74 : decode cX8_ifOpened 74 = .ok (.iload 5, 2) := by decide +kernel
theorem dX8_ifOpened_76 : decode cX8_ifOpened 76 = .ok (.iload_n 1, 1) := by decide +kernel
theorem dX8_ifOpened_77 : decode cX8_ifOpened 77 = .ok (.invokevirtual 271, 3) := by decide +kernel
theorem dX8_ifOpened_80 : decode cX8_ifOpened 80 = .ok (.istore 6, 2) := by decide +kernel
theorem dX8_ifOpened_82 : decode cX8_ifOpened 82 = .ok (.iload_n 2, 1) := by decide +kernel
theorem dX8_ifOpened_83 : decode cX8_ifOpened 83 = .ok (.tableswitch 49 0 2 #[25, 28, 38], 25) := by decide +kernel
theorem dX8_ifOpened_108 : decode cX8_ifOpened 108 = .ok (.iload 6, 2) := by decide +kernel
theorem dX8_ifOpened_110 : decode cX8_ifOpened 110 = .ok (.ireturn, 1) := by decide +kernel
theorem dX8_ifOpened_111 : decode cX8_ifOpened 111 = .ok (.iload_n 3, 1) := by decide +kernel
theorem dX8_ifOpened_112 : decode cX8_ifOpened 112 = .ok (.iload 5, 2) := by decide +kernel
theorem dX8_ifOpened_114 : decode cX8_ifOpened 114 = .ok (.iconst (-1), 1) := by decide +kernel
theorem dX8_ifOpened_115 : decode cX8_ifOpened 115 = .ok (.ixor, 1) := by decide +kernel
theorem dX8_ifOpened_116 : decode cX8_ifOpened 116 = .ok (.iand, 1) := by decide +kernel
theorem dX8_ifOpened_117 : decode cX8_ifOpened 117 = .ok (.invokestatic 195, 3) := by decide +kernel
theorem dX8_ifOpened_120 : decode cX8_ifOpened 120 = .ok (.ireturn, 1) := by decide +kernel
theorem dX8_ifOpened_121 : decode cX8_ifOpened 121 = .ok (.iload 5, 2) := by decide +kernel
theorem dX8_ifOpened_123 : decode cX8_ifOpened 123 = .ok (.iload 6, 2) := by decide +kernel
theorem dX8_ifOpened_125 : decode cX8_ifOpened 125 = .ok (.iconst (-1), 1) := by decide +kernel
theorem dX8_ifOpened_126 : decode cX8_ifOpened 126 = .ok (.ixor, 1) := by decide +kernel
theorem dX8_ifOpened_127 : decode cX8_ifOpened 127 = .ok (.iand, 1) := by decide +kernel
theorem dX8_ifOpened_128 : decode cX8_ifOpened 128 = .ok (.invokestatic 195, 3) := by decide +kernel
theorem dX8_ifOpened_131 : decode cX8_ifOpened 131 = .ok (.ireturn, 1) := by decide +kernel
theorem dX8_ifOpened_132 : decode cX8_ifOpened 132 = .ok (.iconst (-1), 1) := by decide +kernel
theorem dX8_ifOpened_133 : decode cX8_ifOpened 133 = .ok (.ireturn, 1) := by decide +kernel
theorem dX8_undo_0 : decode cX8_undo 0 = .ok (.aload_n 0, 1) := by decide +kernel
theorem dX8_undo_1 : decode cX8_undo 1 = .ok (.getfield 19, 3) := by decide +kernel
theorem dX8_undo_4 : decode cX8_undo 4 = .ok (.getfield 265, 3) := by decide +kernel
theorem dX8_undo_7 : decode cX8_undo 7 = .ok (.ifCond .ne 6, 3) := by decide +kernel
theorem dX8_undo_10 : decode cX8_undo 10 = .ok (.bipush (-2), 2) := by decide +kernel
theorem dX8_undo_12 : decode cX8_undo 12 = .ok (.ireturn, 1) := by decide +kernel
theorem dX8_undo_13 : decode cX8_undo 13 = .ok (.aload_n 0, 1) := by decide +kernel
theorem dX8_undo_14 : decode cX8_undo 14 = .ok (.getfield 19, 3) := by decide +kernel
theorem dX8_undo_17 : decode cX8_undo 17 = .ok (.aload_n 0, 1) := by decide +kernel
theorem dX8_undo_18 : decode cX8_undo 18 = .ok (.getfield 12, 3) := by decide +kernel
theorem dX8_undo_21 : decode cX8_undo 21 = .ok (.invokevirtual 274, 3) := by decide +kernel
theorem dX8_undo_24 : decode cX8_undo 24 = .ok (.aload_n 0, 1) := by decide +kernel
theorem dX8_undo_25 : decode cX8_undo 25 = .ok (.getfield 19, 3) := by decide +kernel
theorem dX8_undo_28 : decode cX8_undo 28 = .ok (.getfield 265, 3) := by decide +kernel
theorem dX8_undo_31 : decode cX8_undo 31 = .ok (.ireturn, 1) := by decide +kernel
theorem dX8_save_0 : decode cX8_save 0 = .ok (.aload_n 0, 1) := by decide +kernel
theorem dX8_save_1 : decode cX8_save 1 = .ok (.getfield 23, 3) := by decide +kernel
theorem dX8_save_4 : decode cX8_save 4 = .ok (.aload_n 0, 1) := by decide +kernel
theorem dX8_save_5 : decode cX8_save 5 = .ok (.getfield 12, 3) := by decide +kernel
theorem dX8_save_8 : decode cX8_save 8 = .ok (.invokevirtual 277, 3) := by decide +kernel
theorem dX8_save_11 : decode cX8_save 11 = .ok (.aload_n 0, 1) := by decide +kernel
theorem dX8_save_12 : decode cX8_save 12 = .ok (.iconst 1, 1) := by decide +kernel
theorem dX8_save_13 : decode cX8_save 13 = .ok (.putfield 26, 3) := by decide +kernel
theorem dX8_save_16 : decode cX8_save 16 = .ok (.aload_n 0, 1) := by decide +kernel
theorem dX8_save_17 : decode cX8_save 17 = .ok (.getfield 12, 3) := by decide +kernel
theorem dX8_save_20 : decode cX8_save 20 = .ok (.getfield 167, 3) := by decide +kernel
theorem dX8_save_23 : decode cX8_save 23 = .ok (.ireturn, 1) := by decide +kernel
theorem dX8_restore_0 : decode cX8_restore 0 = .ok (.aload_n 0, 1) := by decide +kernel
theorem dX8_restore_1 : decode cX8_restore 1 = .ok (.getfield 26, 3) := by decide +kernel
theorem dX8_restore_4 : decode cX8_restore 4 = .ok (.ifCond .ne 6, 3) := by decide +kernel
theorem dX8_restore_7 : decode cX8_restore 7 = .ok (.bipush (-2), 2) := by decide +kernel
theorem dX8_restore_9 : decode cX8_restore 9 = .ok (.ireturn, 1) := by decide +kernel
theorem dX8_restore_10 : decode cX8_restore 10 = .ok (.aload_n 0, 1) := by decide +kernel
theorem dX8_restore_11 : decode cX8_restore 11 = .ok (.getfield 19, 3) := by decide +kernel
theorem dX8_restore_14 : decode cX8_restore 14 = .ok (.aload_n 0, 1) := by decide +kernel
theorem dX8_restore_15 : decode cX8_restore 15 = .ok (.getfield 12, 3) := by decide +kernel
theorem dX8_restore_18 : decode cX8_restore 18 = .ok (.invokevirtual 55, 3) := by decide +kernel
theorem dX8_restore_21 : decode cX8_restore 21 = .ok (.aload_n 0, 1) := by decide +kernel
theorem dX8_restore_22 : decode cX8_restore 22 = .ok (.getfield 12, 3) := by decide +kernel
theorem dX8_restore_25 : decode cX8_restore 25 = .ok (.aload_n 0, 1) := by decide +kernel
theorem dX8_restore_26 : decode cX8_restore 26 = .ok (.getfield 23, 3) := by decide +kernel
theorem dX8_restore_29 : decode cX8_restore 29 = .ok (.invokevirtual 277, 3) := by decide +kernel
theorem dX8_restore_32 : decode cX8_restore 32 = .ok (.aload_n 0, 1) := by decide +kernel
theorem dX8_restore_33 : decode cX8_restore 33 = .ok (.getfield 12, 3) := by decide +kernel
theorem dX8_restore_36 : decode cX8_restore 36 = .ok (.getfield 167, 3) := by decide +kernel
theorem dX8_restore_39 : decode cX8_restore 39 = .ok (.ireturn, 1) := by decide +kernel
theorem dX8_isDoor_0 : decode cX8_isDoor 0 = .ok (.iload_n 0, 1) := by decide +kernel
theorem dX8_isDoor_1 : decode cX8_isDoor 1 = .ok (.ifCond .lt 13, 3) := by decide +kernel
theorem dX8_isDoor_4 : decode cX8_isDoor 4 = .ok (.iload_n 0, 1) := by decide +kernel
theorem dX8_isDoor_5 : decode cX8_isDoor 5 = .ok (.bipush 10, 2) := by decide +kernel
theorem dX8_isDoor_7 : decode cX8_isDoor 7 = .ok (.if_icmp .ge 7, 3) := by decide +kernel
theorem dX8_isDoor_10 : decode cX8_isDoor 10 = .ok (.iconst 1, 1) := by decide +kernel
theorem dX8_isDoor_11 : decode cX8_isDoor 11 = .ok (.goto 4, 3) := by decide +kernel
theorem dX8_isDoor_14 : decode cX8_isDoor 14 = .ok (.iconst 0, 1) := by decide +kernel
theorem dX8_isDoor_15 : decode cX8_isDoor 15 = .ok (.ireturn, 1) := by decide +kernel
theorem dX8_isHall_0 : decode cX8_isHall 0 = .ok (.iload_n 0, 1) := by decide +kernel
theorem dX8_isHall_1 : decode cX8_isHall 1 = .ok (.ifCond .lt 13, 3) := by decide +kernel
theorem dX8_isHall_4 : decode cX8_isHall 4 = .ok (.iload_n 0, 1) := by decide +kernel
theorem dX8_isHall_5 : decode cX8_isHall 5 = .ok (.bipush 6, 2) := by decide +kernel
theorem dX8_isHall_7 : decode cX8_isHall 7 = .ok (.if_icmp .ge 7, 3) := by decide +kernel
theorem dX8_isHall_10 : decode cX8_isHall 10 = .ok (.iconst 1, 1) := by decide +kernel
theorem dX8_isHall_11 : decode cX8_isHall 11 = .ok (.goto 4, 3) := by decide +kernel
theorem dX8_isHall_14 : decode cX8_isHall 14 = .ok (.iconst 0, 1) := by decide +kernel
theorem dX8_isHall_15 : decode cX8_isHall 15 = .ok (.ireturn, 1) := by decide +kernel
theorem dX8_isGuest_0 : decode cX8_isGuest 0 = .ok (.iload_n 0, 1) := by decide +kernel
theorem dX8_isGuest_1 : decode cX8_isGuest 1 = .ok (.ifCond .lt 12, 3) := by decide +kernel
theorem dX8_isGuest_4 : decode cX8_isGuest 4 = .ok (.iload_n 0, 1) := by decide +kernel
theorem dX8_isGuest_5 : decode cX8_isGuest 5 = .ok (.iconst 3, 1) := by decide +kernel
theorem dX8_isGuest_6 : decode cX8_isGuest 6 = .ok (.if_icmp .ge 7, 3) := by decide +kernel
theorem dX8_isGuest_9 : decode cX8_isGuest 9 = .ok (.iconst 1, 1) := by decide +kernel
theorem dX8_isGuest_10 : decode cX8_isGuest 10 = .ok (.goto 4, 3) := by decide +kernel
theorem dX8_isGuest_13 : decode cX8_isGuest 13 = .ok (.iconst 0, 1) := by decide +kernel
theorem dX8_isGuest_14 : decode cX8_isGuest 14 = .ok (.ireturn, 1) := by decide +kernel
theorem dX8_isSetOfDoors_0 : decode cX8_isSetOfDoors 0 = .ok (.iload_n 0, 1) := by decide +kernel
theorem dX8_isSetOfDoors_1 : decode cX8_isSetOfDoors 1 = .ok (.ifCond .lt 14, 3) := by decide +kernel
theorem dX8_isSetOfDoors_4 : decode cX8_isSetOfDoors 4 = .ok (.iload_n 0, 1) := by decide +kernel
theorem dX8_isSetOfDoors_5 : decode cX8_isSetOfDoors 5 = .ok (.sipush 1023, 3) := by decide +kernel
theorem dX8_isSetOfDoors_8 : decode cX8_isSetOfDoors 8 = .ok (.if_icmp .gt 7, 3) := by decide +kernel
theorem dX8_isSetOfDoors_11 : decode cX8_isSetOfDoors 11 = .ok (.iconst 1, 1) := by decide +kernel
theorem dX8_isSetOfDoors_12 : decode cX8_isSetOfDoors 12 = .ok (.goto 4, 3) := by decide +kernel
theorem dX8_isSetOfDoors_15 : decode cX8_isSetOfDoors 15 = .ok (.iconst 0, 1) := by decide +kernel
theorem dX8_isSetOfDoors_16 : decode cX8_isSetOfDoors 16 = .ok (.ireturn, 1) := by decide +kernel
theorem dX8_has_0 : decode cX8_has 0 = .ok (.iload_n 0, 1) := by decide +kernel
theorem dX8_has_1 : decode cX8_has 1 = .ok (.iload_n 1, 1) := by decide +kernel
theorem dX8_has_2 : decode cX8_has 2 = .ok (.ishr, 1) := by decide +kernel
theorem dX8_has_3 : decode cX8_has 3 = .ok (.iconst 1, 1) := by decide +kernel
theorem dX8_has_4 : decode cX8_has 4 = .ok (.iand, 1) := by decide +kernel
theorem dX8_has_5 : decode cX8_has 5 = .ok (.ifCond .eq 7, 3) := by decide +kernel
theorem dX8_has_8 : decode cX8_has 8 = .ok (.iconst 1, 1) := by decide +kernel
theorem dX8_has_9 : decode cX8_has 9 = .ok (.goto 4, 3) := by decide +kernel
theorem dX8_has_12 : decode cX8_has 12 = .ok (.iconst 0, 1) := by decide +kernel
theorem dX8_has_13 : decode cX8_has 13 = .ok (.ireturn, 1) := by decide +kernel
theorem dX8_without_0 : decode cX8_without 0 = .ok (.iload_n 0, 1) := by decide +kernel
theorem dX8_without_1 : decode cX8_without 1 = .ok (.iconst 1, 1) := by decide +kernel
theorem dX8_without_2 : decode cX8_without 2 = .ok (.iload_n 1, 1) := by decide +kernel
theorem dX8_without_3 : decode cX8_without 3 = .ok (.ishl, 1) := by decide +kernel
theorem dX8_without_4 : decode cX8_without 4 = .ok (.iconst (-1), 1) := by decide +kernel
theorem dX8_without_5 : decode cX8_without 5 = .ok (.ixor, 1) := by decide +kernel
theorem dX8_without_6 : decode cX8_without 6 = .ok (.iand, 1) := by decide +kernel
theorem dX8_without_7 : decode cX8_without 7 = .ok (.ireturn, 1) := by decide +kernel
theorem dX8_spot_0 : decode cX8_spot 0 = .ok (.iload_n 0, 1) := by decide +kernel
theorem dX8_spot_1 : decode cX8_spot 1 = .ok (.bipush 6, 2) := by decide +kernel
theorem dX8_spot_3 : decode cX8_spot 3 = .ok (.imul, 1) := by decide +kernel
theorem dX8_spot_4 : decode cX8_spot 4 = .ok (.iload_n 1, 1) := by decide +kernel
theorem dX8_spot_5 : decode cX8_spot 5 = .ok (.iadd, 1) := by decide +kernel
theorem dX8_spot_6 : decode cX8_spot 6 = .ok (.ireturn, 1) := by decide +kernel
theorem dX8_doorOrNotFound_0 : decode cX8_doorOrNotFound 0 = .ok (.iload_n 0, 1) := by decide +kernel
theorem dX8_doorOrNotFound_1 : decode cX8_doorOrNotFound 1 = .ok (.bipush 10, 2) := by decide +kernel
theorem dX8_doorOrNotFound_3 : decode cX8_doorOrNotFound 3 = .ok (.if_icmp .ne 8, 3) := by decide +kernel
theorem dX8_doorOrNotFound_6 : decode cX8_doorOrNotFound 6 = .ok (.bipush (-4), 2) := by decide +kernel
theorem dX8_doorOrNotFound_8 : decode cX8_doorOrNotFound 8 = .ok (.goto 4, 3) := by decide +kernel
theorem dX8_doorOrNotFound_11 : decode cX8_doorOrNotFound 11 = .ok (.iload_n 0, 1) := by decide +kernel
theorem dX8_doorOrNotFound_12 : decode cX8_doorOrNotFound 12 = .ok (.ireturn, 1) := by decide +kernel
theorem dX8_runDeedAt_0 : decode cX8_runDeedAt 0 = .ok (.aload_n 0, 1) := by decide +kernel
theorem dX8_runDeedAt_1 : decode cX8_runDeedAt 1 = .ok (.getfield 33, 3) := by decide +kernel
theorem dX8_runDeedAt_4 : decode cX8_runDeedAt 4 = .ok (.iload_n 1, 1) := by decide +kernel
theorem dX8_runDeedAt_5 : decode cX8_runDeedAt 5 = .ok (.invokevirtual 280, 3) := by decide +kernel
theorem dX8_runDeedAt_8 : decode cX8_runDeedAt 8 = .ok (.istore_n 2, 1) := by decide +kernel
theorem dX8_runDeedAt_9 : decode cX8_runDeedAt 9 = .ok (.aload_n 0, 1) := by decide +kernel
theorem dX8_runDeedAt_10 : decode cX8_runDeedAt 10 = .ok (.getfield 33, 3) := by decide +kernel
theorem dX8_runDeedAt_13 : decode cX8_runDeedAt 13 = .ok (.iload_n 1, 1) := by decide +kernel
theorem dX8_runDeedAt_14 : decode cX8_runDeedAt 14 = .ok (.invokevirtual 283, 3) := by decide +kernel
theorem dX8_runDeedAt_17 : decode cX8_runDeedAt 17 = .ok (.istore_n 3, 1) := by decide +kernel
theorem dX8_runDeedAt_18 : decode cX8_runDeedAt 18 = .ok (.aload_n 0, 1) := by decide +kernel
theorem dX8_runDeedAt_19 : decode cX8_runDeedAt 19 = .ok (.getfield 33, 3) := by decide +kernel
theorem dX8_runDeedAt_22 : decode cX8_runDeedAt 22 = .ok (.iload_n 1, 1) := by decide +kernel
theorem dX8_runDeedAt_23 : decode cX8_runDeedAt 23 = .ok (.invokevirtual 286, 3) := by decide +kernel
theorem dX8_runDeedAt_26 : decode cX8_runDeedAt 26 = .ok (.ifCond .ne 29, 3) := by decide +kernel
theorem dX8_runDeedAt_29 : decode cX8_runDeedAt 29 = .ok (.iload_n 3, 1) := by decide +kernel
theorem dX8_runDeedAt_30 : decode cX8_runDeedAt 30 = .ok (.bipush 111, 2) := by decide +kernel
theorem dX8_runDeedAt_32 : decode cX8_runDeedAt 32 = .ok (.if_icmp .ne 14, 3) := by decide +kernel
theorem dX8_runDeedAt_35 : decode cX8_runDeedAt 35 = .ok (.aload_n 0, 1) := by decide +kernel
theorem dX8_runDeedAt_36 : decode cX8_runDeedAt 36 = .ok (.getfield 12, 3) := by decide +kernel
theorem dX8_runDeedAt_39 : decode cX8_runDeedAt 39 = .ok (.iload_n 2, 1) := by decide +kernel
theorem dX8_runDeedAt_40 : decode cX8_runDeedAt 40 = .ok (.invokevirtual 59, 3) := by decide +kernel
theorem dX8_runDeedAt_43 : decode cX8_runDeedAt 43 = .ok (.goto 11, 3) := by decide +kernel
theorem dX8_runDeedAt_46 : decode cX8_runDeedAt 46 = .ok (.aload_n 0, 1) := by decide +kernel
theorem dX8_runDeedAt_47 : decode cX8_runDeedAt 47 = .ok (.getfield 12, 3) := by decide +kernel
theorem dX8_runDeedAt_50 : decode cX8_runDeedAt 50 = .ok (.iload_n 2, 1) := by decide +kernel
theorem dX8_runDeedAt_51 : decode cX8_runDeedAt 51 = .ok (.invokevirtual 63, 3) := by decide +kernel
theorem dX8_runDeedAt_54 : decode cX8_runDeedAt 54 = .ok (.ireturn, 1) := by decide +kernel
theorem dX8_runDeedAt_55 : decode cX8_runDeedAt 55 = .ok (.aload_n 0, 1) := by decide +kernel
theorem dX8_runDeedAt_56 : decode cX8_runDeedAt 56 = .ok (.getfield 33, 3) := by decide +kernel
theorem dX8_runDeedAt_59 : decode cX8_runDeedAt 59 = .ok (.iload_n 1, 1) := by decide +kernel
theorem dX8_runDeedAt_60 : decode cX8_runDeedAt 60 = .ok (.invokevirtual 289, 3) := by decide +kernel
theorem dX8_runDeedAt_63 : decode cX8_runDeedAt 63 = .ok (.istore 4, 2) := by decide +kernel
theorem dX8_runDeedAt_65 : decode cX8_runDeedAt 65 = .ok (.iload_n 3, 1) := by decide +kernel
theorem dX8_runDeedAt_66 : decode cX8_runDeedAt 66 = .ok (.bipush 119, 2) := by decide +kernel
theorem dX8_runDeedAt_68 : decode cX8_runDeedAt 68 = .ok (.if_icmp .ne 14, 3) := by decide +kernel
theorem dX8_runDeedAt_71 : decode cX8_runDeedAt 71 = .ok (.aload_n 0, 1) := by decide +kernel
theorem dX8_runDeedAt_72 : decode cX8_runDeedAt 72 = .ok (.getfield 12, 3) := by decide +kernel
theorem dX8_runDeedAt_75 : decode cX8_runDeedAt 75 = .ok (.iload 4, 2) := by decide +kernel
theorem dX8_runDeedAt_77 : decode cX8_runDeedAt 77 = .ok (.iload_n 2, 1) := by decide +kernel
theorem dX8_runDeedAt_78 : decode cX8_runDeedAt 78 = .ok (.invokevirtual 123, 3) := by decide +kernel
theorem dX8_runDeedAt_81 : decode cX8_runDeedAt 81 = .ok (.ireturn, 1) := by decide +kernel
theorem dX8_runDeedAt_82 : decode cX8_runDeedAt 82 = .ok (.iload_n 3, 1) := by decide +kernel
theorem dX8_runDeedAt_83 : decode cX8_runDeedAt 83 = .ok (.bipush 111, 2) := by decide +kernel
theorem dX8_runDeedAt_85 : decode cX8_runDeedAt 85 = .ok (.if_icmp .ne 16, 3) := by decide +kernel
theorem dX8_runDeedAt_88 : decode cX8_runDeedAt 88 = .ok (.aload_n 0, 1) := by decide +kernel
theorem dX8_runDeedAt_89 : decode cX8_runDeedAt 89 = .ok (.getfield 12, 3) := by decide +kernel
theorem dX8_runDeedAt_92 : decode cX8_runDeedAt 92 = .ok (.iload 4, 2) := by decide +kernel
theorem dX8_runDeedAt_94 : decode cX8_runDeedAt 94 = .ok (.iload_n 2, 1) := by decide +kernel
theorem dX8_runDeedAt_95 : decode cX8_runDeedAt 95 = .ok (.invokevirtual 116, 3) := by decide +kernel
theorem dX8_runDeedAt_98 : decode cX8_runDeedAt 98 = .ok (.goto 13, 3) := by decide +kernel
theorem dX8_runDeedAt_101 : decode cX8_runDeedAt 101 = .ok (.aload_n 0, 1) := by decide +kernel
theorem dX8_runDeedAt_102 : decode cX8_runDeedAt 102 = .ok (.getfield 12, 3) := by decide +kernel
theorem dX8_runDeedAt_105 : decode cX8_runDeedAt 105 = .ok (.iload 4, 2) := by decide +kernel
theorem dX8_runDeedAt_107 : decode cX8_runDeedAt 107 = .ok (.iload_n 2, 1) := by decide +kernel
theorem dX8_runDeedAt_108 : decode cX8_runDeedAt 108 = .ok (.invokevirtual 120, 3) := by decide +kernel
theorem dX8_runDeedAt_111 : decode cX8_runDeedAt 111 = .ok (.ireturn, 1) := by decide +kernel
theorem dX8_mostOfAllSets_0 : decode cX8_mostOfAllSets 0 = .ok (.iconst 0, 1) := by decide +kernel
theorem dX8_mostOfAllSets_1 : decode cX8_mostOfAllSets 1 = .ok (.istore_n 1, 1) := by decide +kernel
theorem dX8_mostOfAllSets_2 : decode cX8_mostOfAllSets 2 = .ok (.iconst 0, 1) := by decide +kernel
theorem dX8_mostOfAllSets_3 : decode cX8_mostOfAllSets 3 = .ok (.istore_n 2, 1) := by decide +kernel
theorem dX8_mostOfAllSets_4 : decode cX8_mostOfAllSets 4 = .ok (.iload_n 2, 1) := by decide +kernel
theorem dX8_mostOfAllSets_5 : decode cX8_mostOfAllSets 5 = .ok (.sipush 1023, 3) := by decide +kernel
theorem dX8_mostOfAllSets_8 : decode cX8_mostOfAllSets 8 = .ok (.if_icmp .gt 32, 3) := by decide +kernel
theorem dX8_mostOfAllSets_11 : decode cX8_mostOfAllSets 11 = .ok (.aload_n 0, 1) := by decide +kernel
theorem dX8_mostOfAllSets_12 : decode cX8_mostOfAllSets 12 = .ok (.getfield 12, 3) := by decide +kernel
theorem dX8_mostOfAllSets_15 : decode cX8_mostOfAllSets 15 = .ok (.getfield 66, 3) := by decide +kernel
theorem dX8_mostOfAllSets_18 : decode cX8_mostOfAllSets 18 = .ok (.iload_n 2, 1) := by decide +kernel
theorem dX8_mostOfAllSets_19 : decode cX8_mostOfAllSets 19 = .ok (.invokevirtual 225, 3) := by decide +kernel
theorem dX8_mostOfAllSets_22 : decode cX8_mostOfAllSets 22 = .ok (.ifCond .eq 12, 3) := by decide +kernel
theorem dX8_mostOfAllSets_25 : decode cX8_mostOfAllSets 25 = .ok (.iload_n 1, 1) := by decide +kernel
theorem dX8_mostOfAllSets_26 : decode cX8_mostOfAllSets 26 = .ok (.iload_n 2, 1) := by decide +kernel
theorem dX8_mostOfAllSets_27 : decode cX8_mostOfAllSets 27 = .ok (.invokestatic 195, 3) := by decide +kernel
theorem dX8_mostOfAllSets_30 : decode cX8_mostOfAllSets 30 = .ok (.invokestatic 292, 3) := by decide +kernel
theorem dX8_mostOfAllSets_33 : decode cX8_mostOfAllSets 33 = .ok (.istore_n 1, 1) := by decide +kernel
theorem dX8_mostOfAllSets_34 : decode cX8_mostOfAllSets 34 = .ok (.iinc 2 1, 3) := by decide +kernel
theorem dX8_mostOfAllSets_37 : decode cX8_mostOfAllSets 37 = .ok (.goto (-33), 3) := by decide +kernel
theorem dX8_mostOfAllSets_40 : decode cX8_mostOfAllSets 40 = .ok (.iload_n 1, 1) := by decide +kernel
theorem dX8_mostOfAllSets_41 : decode cX8_mostOfAllSets 41 = .ok (.ireturn, 1) := by decide +kernel
theorem dX8_mostDoorByDoor_0 : decode cX8_mostDoorByDoor 0 = .ok (.iload_n 1, 1) := by decide +kernel
theorem dX8_mostDoorByDoor_1 : decode cX8_mostDoorByDoor 1 = .ok (.bipush 10, 2) := by decide +kernel
theorem dX8_mostDoorByDoor_3 : decode cX8_mostDoorByDoor 3 = .ok (.if_icmp .lt 8, 3) := by decide +kernel
theorem dX8_mostDoorByDoor_6 : decode cX8_mostDoorByDoor 6 = .ok (.iload_n 2, 1) := by decide +kernel
theorem dX8_mostDoorByDoor_7 : decode cX8_mostDoorByDoor 7 = .ok (.invokestatic 195, 3) := by decide +kernel
theorem dX8_mostDoorByDoor_10 : decode cX8_mostDoorByDoor 10 = .ok (.ireturn, 1) := by decide +kernel
theorem dX8_mostDoorByDoor_11 : decode cX8_mostDoorByDoor 11 = .ok (.aload_n 0, 1) := by decide +kernel
theorem dX8_mostDoorByDoor_12 : decode cX8_mostDoorByDoor 12 = .ok (.iload_n 1, 1) := by decide +kernel
theorem dX8_mostDoorByDoor_13 : decode cX8_mostDoorByDoor 13 = .ok (.iconst 1, 1) := by decide +kernel
theorem dX8_mostDoorByDoor_14 : decode cX8_mostDoorByDoor 14 = .ok (.iadd, 1) := by decide +kernel
theorem dX8_mostDoorByDoor_15 : decode cX8_mostDoorByDoor 15 = .ok (.iload_n 2, 1) := by decide +kernel
theorem dX8_mostDoorByDoor_16 : decode cX8_mostDoorByDoor 16 = .ok (.invokestatic 221, 3) := by decide +kernel
theorem dX8_mostDoorByDoor_19 : decode cX8_mostDoorByDoor 19 = .ok (.istore_n 3, 1) := by decide +kernel
theorem dX8_mostDoorByDoor_20 : decode cX8_mostDoorByDoor 20 = .ok (.iload_n 2, 1) := by decide +kernel
theorem dX8_mostDoorByDoor_21 : decode cX8_mostDoorByDoor 21 = .ok (.iconst 1, 1) := by decide +kernel
theorem dX8_mostDoorByDoor_22 : decode cX8_mostDoorByDoor 22 = .ok (.iload_n 1, 1) := by decide +kernel
theorem dX8_mostDoorByDoor_23 : decode cX8_mostDoorByDoor 23 = .ok (.ishl, 1) := by decide +kernel
theorem dX8_mostDoorByDoor_24 : decode cX8_mostDoorByDoor 24 = .ok (.ior, 1) := by decide +kernel
theorem dX8_mostDoorByDoor_25 : decode cX8_mostDoorByDoor 25 = .ok (.istore 4, 2) := by decide +kernel
theorem dX8_mostDoorByDoor_27 : decode cX8_mostDoorByDoor 27 = .ok (.aload_n 0, 1) := by decide +kernel
theorem dX8_mostDoorByDoor_28 : decode cX8_mostDoorByDoor 28 = .ok (.iload 4, 2) := by decide +kernel
theorem dX8_mostDoorByDoor_30 : decode cX8_mostDoorByDoor 30 = .ok (.invokevirtual 225, 3) := by decide +kernel
theorem dX8_mostDoorByDoor_33 : decode cX8_mostDoorByDoor 33 = .ok (.ifCond .ne 5, 3) := by decide +kernel
theorem dX8_mostDoorByDoor_36 : decode cX8_mostDoorByDoor 36 = .ok (.iload_n 3, 1) := by decide +kernel
theorem dX8_mostDoorByDoor_37 : decode cX8_mostDoorByDoor 37 = .ok (.ireturn, 1) := by decide +kernel
theorem dX8_mostDoorByDoor_38 : decode cX8_mostDoorByDoor 38 = .ok (.iload_n 3, 1) := by decide +kernel
theorem dX8_mostDoorByDoor_39 : decode cX8_mostDoorByDoor 39 = .ok (.aload_n 0, 1) := by decide +kernel
theorem dX8_mostDoorByDoor_40 : decode cX8_mostDoorByDoor 40 = .ok (.iload_n 1, 1) := by decide +kernel
theorem dX8_mostDoorByDoor_41 : decode cX8_mostDoorByDoor 41 = .ok (.iconst 1, 1) := by decide +kernel
theorem dX8_mostDoorByDoor_42 : decode cX8_mostDoorByDoor 42 = .ok (.iadd, 1) := by decide +kernel
theorem dX8_mostDoorByDoor_43 : decode cX8_mostDoorByDoor 43 = .ok (.iload 4, 2) := by decide +kernel
theorem dX8_mostDoorByDoor_45 : decode cX8_mostDoorByDoor 45 = .ok (.invokestatic 221, 3) := by decide +kernel
theorem dX8_mostDoorByDoor_48 : decode cX8_mostDoorByDoor 48 = .ok (.invokestatic 292, 3) := by decide +kernel
theorem dX8_mostDoorByDoor_51 : decode cX8_mostDoorByDoor 51 = .ok (.ireturn, 1) := by decide +kernel
theorem dX9_init_0 : decode cX9_init 0 = .ok (.aload_n 0, 1) := by decide +kernel
theorem dX9_init_1 : decode cX9_init 1 = .ok (.invokespecial 1, 3) := by decide +kernel
theorem dX9_init_4 : decode cX9_init 4 = .ok (.aload_n 0, 1) := by decide +kernel
theorem dX9_init_5 : decode cX9_init 5 = .ok (.bipush 85, 2) := by decide +kernel
theorem dX9_init_7 : decode cX9_init 7 = .ok (.newarray .int, 2) := by decide +kernel
theorem dX9_init_9 : decode cX9_init 9 = .ok (.putfield 7, 3) := by decide +kernel
theorem dX9_init_12 : decode cX9_init 12 = .ok (.aload_n 0, 1) := by decide +kernel
theorem dX9_init_13 : decode cX9_init 13 = .ok (.bipush 85, 2) := by decide +kernel
theorem dX9_init_15 : decode cX9_init 15 = .ok (.newarray .int, 2) := by decide +kernel
theorem dX9_init_17 : decode cX9_init 17 = .ok (.putfield 13, 3) := by decide +kernel
theorem dX9_init_20 : decode cX9_init 20 = .ok (.aload_n 0, 1) := by decide +kernel
theorem dX9_init_21 : decode cX9_init 21 = .ok (.sipush 340, 3) := by decide +kernel
theorem dX9_init_24 : decode cX9_init 24 = .ok (.newarray .int, 2) := by decide +kernel
theorem dX9_init_26 : decode cX9_init 26 = .ok (.putfield 16, 3) := by decide +kernel
theorem dX9_init_29 : decode cX9_init 29 = .ok (.aload_n 0, 1) := by decide +kernel
theorem dX9_init_30 : decode cX9_init 30 = .ok (.bipush 85, 2) := by decide +kernel
theorem dX9_init_32 : decode cX9_init 32 = .ok (.newarray .int, 2) := by decide +kernel
theorem dX9_init_34 : decode cX9_init 34 = .ok (.putfield 19, 3) := by decide +kernel
theorem dX9_init_37 : decode cX9_init 37 = .ok (.aload_n 0, 1) := by decide +kernel
theorem dX9_init_38 : decode cX9_init 38 = .ok (.bipush 60, 2) := by decide +kernel
theorem dX9_init_40 : decode cX9_init 40 = .ok (.newarray .int, 2) := by decide +kernel
theorem dX9_init_42 : decode cX9_init 42 = .ok (.putfield 22, 3) := by decide +kernel
theorem dX9_init_45 : decode cX9_init 45 = .ok (.aload_n 0, 1) := by decide +kernel
theorem dX9_init_46 : decode cX9_init 46 = .ok (.bipush (-4), 2) := by decide +kernel
theorem dX9_init_48 : decode cX9_init 48 = .ok (.putfield 25, 3) := by decide +kernel
theorem dX9_init_51 : decode cX9_init 51 = .ok (.aload_n 0, 1) := by decide +kernel
theorem dX9_init_52 : decode cX9_init 52 = .ok (.bipush (-4), 2) := by decide +kernel
theorem dX9_init_54 : decode cX9_init 54 = .ok (.putfield 29, 3) := by decide +kernel
theorem dX9_init_57 : decode cX9_init 57 = .ok (.aload_n 0, 1) := by decide +kernel
theorem dX9_init_58 : decode cX9_init 58 = .ok (.bipush (-4), 2) := by decide +kernel
theorem dX9_init_60 : decode cX9_init 60 = .ok (.putfield 32, 3) := by decide +kernel
theorem dX9_init_63 : decode cX9_init 63 = .ok (.aload_n 0, 1) := by decide +kernel
theorem dX9_init_64 : decode cX9_init 64 = .ok (.bipush 124, 2) := by decide +kernel
theorem dX9_init_66 : decode cX9_init 66 = .ok (.newarray .int, 2) := by decide +kernel
theorem dX9_init_68 : decode cX9_init 68 = .ok (.putfield 35, 3) := by decide +kernel
theorem dX9_init_71 : decode cX9_init 71 = .ok (.aload_n 0, 1) := by decide +kernel
theorem dX9_init_72 : decode cX9_init 72 = .ok (.sipush 6144, 3) := by decide +kernel
theorem dX9_init_75 : decode cX9_init 75 = .ok (.newarray .int, 2) := by decide +kernel
theorem dX9_init_77 : decode cX9_init 77 = .ok (.putfield 38, 3) := by decide +kernel
theorem dX9_init_80 : decode cX9_init 80 = .ok (.aload_n 0, 1) := by decide +kernel
theorem dX9_init_81 : decode cX9_init 81 = .ok (.sipush 6144, 3) := by decide +kernel
theorem dX9_init_84 : decode cX9_init 84 = .ok (.newarray .int, 2) := by decide +kernel
theorem dX9_init_86 : decode cX9_init 86 = .ok (.putfield 41, 3) := by decide +kernel
theorem dX9_init_89 : decode cX9_init 89 = .ok (.aload_n 0, 1) := by decide +kernel
theorem dX9_init_90 : decode cX9_init 90 = .ok (.getfield 7, 3) := by decide +kernel
theorem dX9_init_93 : decode cX9_init 93 = .ok (.iconst 0, 1) := by decide +kernel
theorem dX9_init_94 : decode cX9_init 94 = .ok (.iconst 3, 1) := by decide +kernel
theorem dX9_init_95 : decode cX9_init 95 = .ok (.iastore, 1) := by decide +kernel
theorem dX9_init_96 : decode cX9_init 96 = .ok (.iconst 0, 1) := by decide +kernel
theorem dX9_init_97 : decode cX9_init 97 = .ok (.istore_n 1, 1) := by decide +kernel
theorem dX9_init_98 : decode cX9_init 98 = .ok (.iload_n 1, 1) := by decide +kernel
theorem dX9_init_99 : decode cX9_init 99 = .ok (.bipush 10, 2) := by decide +kernel
theorem dX9_init_101 : decode cX9_init 101 = .ok (.if_icmp .ge 55, 3) := by decide +kernel
theorem dX9_init_104 : decode cX9_init 104 = .ok (.aload_n 0, 1) := by decide +kernel
theorem dX9_init_105 : decode cX9_init 105 = .ok (.iload_n 1, 1) := by decide +kernel
theorem dX9_init_106 : decode cX9_init 106 = .ok (.iconst 1, 1) := by decide +kernel
theorem dX9_init_107 : decode cX9_init 107 = .ok (.iload_n 1, 1) := by decide +kernel
theorem dX9_init_108 : decode cX9_init 108 = .ok (.bipush 6, 2) := by decide +kernel
theorem dX9_init_110 : decode cX9_init 110 = .ok (.irem, 1) := by decide +kernel
theorem dX9_init_111 : decode cX9_init 111 = .ok (.invokevirtual 44, 3) := by decide +kernel
theorem dX9_init_114 : decode cX9_init 114 = .ok (.aload_n 0, 1) := by decide +kernel
theorem dX9_init_115 : decode cX9_init 115 = .ok (.iload_n 1, 1) := by decide +kernel
theorem dX9_init_116 : decode cX9_init 116 = .ok (.iconst 2, 1) := by decide +kernel
theorem dX9_init_117 : decode cX9_init 117 = .ok (.iload_n 1, 1) := by decide +kernel
theorem dX9_init_118 : decode cX9_init 118 = .ok (.iconst 1, 1) := by decide +kernel
theorem dX9_init_119 : decode cX9_init 119 = .ok (.iadd, 1) := by decide +kernel
theorem dX9_init_120 : decode cX9_init 120 = .ok (.bipush 6, 2) := by decide +kernel
theorem dX9_init_122 : decode cX9_init 122 = .ok (.irem, 1) := by decide +kernel
theorem dX9_init_123 : decode cX9_init 123 = .ok (.invokevirtual 44, 3) := by decide +kernel
theorem dX9_init_126 : decode cX9_init 126 = .ok (.aload_n 0, 1) := by decide +kernel
theorem dX9_init_127 : decode cX9_init 127 = .ok (.iload_n 1, 1) := by decide +kernel
theorem dX9_init_128 : decode cX9_init 128 = .ok (.iconst 3, 1) := by decide +kernel
theorem dX9_init_129 : decode cX9_init 129 = .ok (.iload_n 1, 1) := by decide +kernel
theorem dX9_init_130 : decode cX9_init 130 = .ok (.iconst 1, 1) := by decide +kernel
theorem dX9_init_131 : decode cX9_init 131 = .ok (.iadd, 1) := by decide +kernel
theorem dX9_init_132 : decode cX9_init 132 = .ok (.bipush 10, 2) := by decide +kernel
theorem dX9_init_134 : decode cX9_init 134 = .ok (.irem, 1) := by decide +kernel
theorem dX9_init_135 : decode cX9_init 135 = .ok (.invokevirtual 44, 3) := by decide +kernel
theorem dX9_init_138 : decode cX9_init 138 = .ok (.aload_n 0, 1) := by decide +kernel
theorem dX9_init_139 : decode cX9_init 139 = .ok (.iload_n 1, 1) := by decide +kernel
theorem dX9_init_140 : decode cX9_init 140 = .ok (.iconst 4, 1) := by decide +kernel
theorem dX9_init_141 : decode cX9_init 141 = .ok (.iload_n 1, 1) := by decide +kernel
theorem dX9_init_142 : decode cX9_init 142 = .ok (.iconst 3, 1) := by decide +kernel
theorem dX9_init_143 : decode cX9_init 143 = .ok (.iadd, 1) := by decide +kernel
theorem dX9_init_144 : decode cX9_init 144 = .ok (.bipush 10, 2) := by decide +kernel
theorem dX9_init_146 : decode cX9_init 146 = .ok (.irem, 1) := by decide +kernel
theorem dX9_init_147 : decode cX9_init 147 = .ok (.invokevirtual 44, 3) := by decide +kernel
theorem dX9_init_150 : decode cX9_init 150 = .ok (.iinc 1 1, 3) := by decide +kernel
theorem dX9_init_153 : decode cX9_init 153 = .ok (.goto (-55), 3) := by decide +kernel
theorem dX9_init_156 : decode cX9_init 156 = .ok (.return_, 1) := by decide +kernel
theorem dX9_in_0 : decode cX9_in 0 = .ok (.iload_n 0, 1) := by decide +kernel
theorem dX9_in_1 : decode cX9_in 1 = .ok (.iload_n 1, 1) := by decide +kernel
theorem dX9_in_2 : decode cX9_in 2 = .ok (.if_icmp .lt 12, 3) := by decide +kernel
theorem dX9_in_5 : decode cX9_in 5 = .ok (.iload_n 0, 1) := by decide +kernel
theorem dX9_in_6 : decode cX9_in 6 = .ok (.iload_n 2, 1) := by decide +kernel
theorem dX9_in_7 : decode cX9_in 7 = .ok (.if_icmp .gt 7, 3) := by decide +kernel
theorem dX9_in_10 : decode cX9_in 10 = .ok (.iconst 1, 1) := by decide +kernel
theorem dX9_in_11 : decode cX9_in 11 = .ok (.goto 4, 3) := by decide +kernel
theorem dX9_in_14 : decode cX9_in 14 = .ok (.iconst 0, 1) := by decide +kernel
theorem dX9_in_15 : decode cX9_in 15 = .ok (.ireturn, 1) := by decide +kernel
theorem dX9_isDoor_0 : decode cX9_isDoor 0 = .ok (.iload_n 0, 1) := by decide +kernel
theorem dX9_isDoor_1 : decode cX9_isDoor 1 = .ok (.iconst 0, 1) := by decide +kernel
theorem dX9_isDoor_2 : decode cX9_isDoor 2 = .ok (.bipush 9, 2) := by decide +kernel
theorem dX9_isDoor_4 : decode cX9_isDoor 4 = .ok (.invokestatic 48, 3) := by decide +kernel
theorem dX9_isDoor_7 : decode cX9_isDoor 7 = .ok (.ireturn, 1) := by decide +kernel
theorem dX9_isHall_0 : decode cX9_isHall 0 = .ok (.iload_n 0, 1) := by decide +kernel
theorem dX9_isHall_1 : decode cX9_isHall 1 = .ok (.iconst 0, 1) := by decide +kernel
theorem dX9_isHall_2 : decode cX9_isHall 2 = .ok (.iconst 5, 1) := by decide +kernel
theorem dX9_isHall_3 : decode cX9_isHall 3 = .ok (.invokestatic 48, 3) := by decide +kernel
theorem dX9_isHall_6 : decode cX9_isHall 6 = .ok (.ireturn, 1) := by decide +kernel
theorem dX9_isGuest_0 : decode cX9_isGuest 0 = .ok (.iload_n 0, 1) := by decide +kernel
theorem dX9_isGuest_1 : decode cX9_isGuest 1 = .ok (.iconst 0, 1) := by decide +kernel
theorem dX9_isGuest_2 : decode cX9_isGuest 2 = .ok (.iconst 2, 1) := by decide +kernel
theorem dX9_isGuest_3 : decode cX9_isGuest 3 = .ok (.invokestatic 48, 3) := by decide +kernel
theorem dX9_isGuest_6 : decode cX9_isGuest 6 = .ok (.ireturn, 1) := by decide +kernel
theorem dX9_of_0 : decode cX9_of 0 = .ok (.aload_n 0, 1) := by decide +kernel
theorem dX9_of_1 : decode cX9_of 1 = .ok (.getfield 7, 3) := by decide +kernel
theorem dX9_of_4 : decode cX9_of 4 = .ok (.bipush 6, 2) := by decide +kernel
theorem dX9_of_6 : decode cX9_of 6 = .ok (.bipush 7, 2) := by decide +kernel
theorem dX9_of_8 : decode cX9_of 8 = .ok (.iload_n 1, 1) := by decide +kernel
theorem dX9_of_9 : decode cX9_of 9 = .ok (.imul, 1) := by decide +kernel
theorem dX9_of_10 : decode cX9_of 10 = .ok (.iadd, 1) := by decide +kernel
theorem dX9_of_11 : decode cX9_of 11 = .ok (.iload_n 2, 1) := by decide +kernel
theorem dX9_of_12 : decode cX9_of 12 = .ok (.iadd, 1) := by decide +kernel
theorem dX9_of_13 : decode cX9_of 13 = .ok (.iaload, 1) := by decide +kernel
theorem dX9_of_14 : decode cX9_of 14 = .ok (.ireturn, 1) := by decide +kernel
theorem dX9_lay_0 : decode cX9_lay 0 = .ok (.aload_n 0, 1) := by decide +kernel
theorem dX9_lay_1 : decode cX9_lay 1 = .ok (.getfield 7, 3) := by decide +kernel
theorem dX9_lay_4 : decode cX9_lay 4 = .ok (.bipush 6, 2) := by decide +kernel
theorem dX9_lay_6 : decode cX9_lay 6 = .ok (.bipush 7, 2) := by decide +kernel
theorem dX9_lay_8 : decode cX9_lay 8 = .ok (.iload_n 1, 1) := by decide +kernel
theorem dX9_lay_9 : decode cX9_lay 9 = .ok (.imul, 1) := by decide +kernel
theorem dX9_lay_10 : decode cX9_lay 10 = .ok (.iadd, 1) := by decide +kernel
theorem dX9_lay_11 : decode cX9_lay 11 = .ok (.iload_n 2, 1) := by decide +kernel
theorem dX9_lay_12 : decode cX9_lay 12 = .ok (.iadd, 1) := by decide +kernel
theorem dX9_lay_13 : decode cX9_lay 13 = .ok (.iload_n 3, 1) := by decide +kernel
theorem dX9_lay_14 : decode cX9_lay 14 = .ok (.iastore, 1) := by decide +kernel
theorem dX9_lay_15 : decode cX9_lay 15 = .ok (.return_, 1) := by decide +kernel
theorem dX9_ofGuest_0 : decode cX9_ofGuest 0 = .ok (.aload_n 0, 1) := by decide +kernel
theorem dX9_ofGuest_1 : decode cX9_ofGuest 1 = .ok (.getfield 7, 3) := by decide +kernel
theorem dX9_ofGuest_4 : decode cX9_ofGuest 4 = .ok (.bipush 76, 2) := by decide +kernel
theorem dX9_ofGuest_6 : decode cX9_ofGuest 6 = .ok (.iconst 3, 1) := by decide +kernel
theorem dX9_ofGuest_7 : decode cX9_ofGuest 7 = .ok (.iload_n 1, 1) := by decide +kernel
theorem dX9_ofGuest_8 : decode cX9_ofGuest 8 = .ok (.imul, 1) := by decide +kernel
theorem dX9_ofGuest_9 : decode cX9_ofGuest 9 = .ok (.iadd, 1) := by decide +kernel
theorem dX9_ofGuest_10 : decode cX9_ofGuest 10 = .ok (.iload_n 2, 1) := by decide +kernel
theorem dX9_ofGuest_11 : decode cX9_ofGuest 11 = .ok (.iadd, 1) := by decide +kernel
theorem dX9_ofGuest_12 : decode cX9_ofGuest 12 = .ok (.iaload, 1) := by decide +kernel
theorem dX9_ofGuest_13 : decode cX9_ofGuest 13 = .ok (.ireturn, 1) := by decide +kernel
theorem dX9_isOpen_0 : decode cX9_isOpen 0 = .ok (.aload_n 0, 1) := by decide +kernel
theorem dX9_isOpen_1 : decode cX9_isOpen 1 = .ok (.iload_n 1, 1) := by decide +kernel
theorem dX9_isOpen_2 : decode cX9_isOpen 2 = .ok (.iconst 0, 1) := by decide +kernel
theorem dX9_isOpen_3 : decode cX9_isOpen 3 = .ok (.invokevirtual 52, 3) := by decide +kernel
theorem dX9_isOpen_6 : decode cX9_isOpen 6 = .ok (.iconst 1, 1) := by decide +kernel
theorem dX9_isOpen_7 : decode cX9_isOpen 7 = .ok (.if_icmp .ne 7, 3) := by decide +kernel
theorem dX9_isOpen_10 : decode cX9_isOpen 10 = .ok (.iconst 1, 1) := by decide +kernel
theorem dX9_isOpen_11 : decode cX9_isOpen 11 = .ok (.goto 4, 3) := by decide +kernel
theorem dX9_isOpen_14 : decode cX9_isOpen 14 = .ok (.iconst 0, 1) := by decide +kernel
theorem dX9_isOpen_15 : decode cX9_isOpen 15 = .ok (.ireturn, 1) := by decide +kernel
theorem dX9_joins_0 : decode cX9_joins 0 = .ok (.aload_n 0, 1) := by decide +kernel
theorem dX9_joins_1 : decode cX9_joins 1 = .ok (.iload_n 1, 1) := by decide +kernel
theorem dX9_joins_2 : decode cX9_joins 2 = .ok (.iconst 1, 1) := by decide +kernel
theorem dX9_joins_3 : decode cX9_joins 3 = .ok (.invokevirtual 52, 3) := by decide +kernel
theorem dX9_joins_6 : decode cX9_joins 6 = .ok (.iload_n 2, 1) := by decide +kernel
theorem dX9_joins_7 : decode cX9_joins 7 = .ok (.if_icmp .eq 13, 3) := by decide +kernel
theorem dX9_joins_10 : decode cX9_joins 10 = .ok (.aload_n 0, 1) := by decide +kernel
theorem dX9_joins_11 : decode cX9_joins 11 = .ok (.iload_n 1, 1) := by decide +kernel
theorem dX9_joins_12 : decode cX9_joins 12 = .ok (.iconst 2, 1) := by decide +kernel
theorem dX9_joins_13 : decode cX9_joins 13 = .ok (.invokevirtual 52, 3) := by decide +kernel
theorem dX9_joins_16 : decode cX9_joins 16 = .ok (.iload_n 2, 1) := by decide +kernel
theorem dX9_joins_17 : decode cX9_joins 17 = .ok (.if_icmp .ne 7, 3) := by decide +kernel
theorem dX9_joins_20 : decode cX9_joins 20 = .ok (.iconst 1, 1) := by decide +kernel
theorem dX9_joins_21 : decode cX9_joins 21 = .ok (.goto 4, 3) := by decide +kernel
theorem dX9_joins_24 : decode cX9_joins 24 = .ok (.iconst 0, 1) := by decide +kernel
theorem dX9_joins_25 : decode cX9_joins 25 = .ok (.ireturn, 1) := by decide +kernel
theorem dX9_goesTo_0 : decode cX9_goesTo 0 = .ok (.aload_n 0, 1) := by decide +kernel
theorem dX9_goesTo_1 : decode cX9_goesTo 1 = .ok (.iload_n 1, 1) := by decide +kernel
theorem dX9_goesTo_2 : decode cX9_goesTo 2 = .ok (.iconst 3, 1) := by decide +kernel
theorem dX9_goesTo_3 : decode cX9_goesTo 3 = .ok (.invokevirtual 52, 3) := by decide +kernel
theorem dX9_goesTo_6 : decode cX9_goesTo 6 = .ok (.iload_n 2, 1) := by decide +kernel
theorem dX9_goesTo_7 : decode cX9_goesTo 7 = .ok (.if_icmp .eq 13, 3) := by decide +kernel
theorem dX9_goesTo_10 : decode cX9_goesTo 10 = .ok (.aload_n 0, 1) := by decide +kernel
theorem dX9_goesTo_11 : decode cX9_goesTo 11 = .ok (.iload_n 1, 1) := by decide +kernel
theorem dX9_goesTo_12 : decode cX9_goesTo 12 = .ok (.iconst 4, 1) := by decide +kernel
theorem dX9_goesTo_13 : decode cX9_goesTo 13 = .ok (.invokevirtual 52, 3) := by decide +kernel
theorem dX9_goesTo_16 : decode cX9_goesTo 16 = .ok (.iload_n 2, 1) := by decide +kernel
theorem dX9_goesTo_17 : decode cX9_goesTo 17 = .ok (.if_icmp .ne 7, 3) := by decide +kernel
theorem dX9_goesTo_20 : decode cX9_goesTo 20 = .ok (.iconst 1, 1) := by decide +kernel
theorem dX9_goesTo_21 : decode cX9_goesTo 21 = .ok (.goto 4, 3) := by decide +kernel
theorem dX9_goesTo_24 : decode cX9_goesTo 24 = .ok (.iconst 0, 1) := by decide +kernel
theorem dX9_goesTo_25 : decode cX9_goesTo 25 = .ok (.ireturn, 1) := by decide +kernel
theorem dX9_copyState_0 : decode cX9_copyState 0 = .ok (.iconst 0, 1) := by decide +kernel
theorem dX9_copyState_1 : decode cX9_copyState 1 = .ok (.istore 4, 2) := by decide +kernel
theorem dX9_copyState_3 : decode cX9_copyState 3 = .ok (.iload 4, 2) := by decide +kernel
theorem dX9_copyState_5 : decode cX9_copyState 5 = .ok (.bipush 85, 2) := by decide +kernel
theorem dX9_copyState_7 : decode cX9_copyState 7 = .ok (.if_icmp .ge 21, 3) := by decide +kernel
theorem dX9_copyState_10 : decode cX9_copyState 10 = .ok (.aload_n 2, 1) := by decide +kernel
theorem dX9_copyState_11 : decode cX9_copyState 11 = .ok (.iload_n 3, 1) := by decide +kernel
theorem dX9_copyState_12 : decode cX9_copyState 12 = .ok (.iload 4, 2) := by decide +kernel
theorem dX9_copyState_14 : decode cX9_copyState 14 = .ok (.iadd, 1) := by decide +kernel
theorem dX9_copyState_15 : decode cX9_copyState 15 = .ok (.aload_n 0, 1) := by decide +kernel
theorem dX9_copyState_16 : decode cX9_copyState 16 = .ok (.iload_n 1, 1) := by decide +kernel
theorem dX9_copyState_17 : decode cX9_copyState 17 = .ok (.iload 4, 2) := by decide +kernel
theorem dX9_copyState_19 : decode cX9_copyState 19 = .ok (.iadd, 1) := by decide +kernel
theorem dX9_copyState_20 : decode cX9_copyState 20 = .ok (.iaload, 1) := by decide +kernel
theorem dX9_copyState_21 : decode cX9_copyState 21 = .ok (.iastore, 1) := by decide +kernel
theorem dX9_copyState_22 : decode cX9_copyState 22 = .ok (.iinc 4 1, 3) := by decide +kernel
theorem dX9_copyState_25 : decode cX9_copyState 25 = .ok (.goto (-22), 3) := by decide +kernel
theorem dX9_copyState_28 : decode cX9_copyState 28 = .ok (.return_, 1) := by decide +kernel
theorem dX9_record_0 : decode cX9_record 0 = .ok (.aload_n 0, 1) := by decide +kernel
theorem dX9_record_1 : decode cX9_record 1 = .ok (.getfield 56, 3) := by decide +kernel
theorem dX9_record_4 : decode cX9_record 4 = .ok (.iconst 4, 1) := by decide +kernel
theorem dX9_record_5 : decode cX9_record 5 = .ok (.if_icmp .ne 43, 3) := by decide +kernel
theorem dX9_record_8 : decode cX9_record 8 = .ok (.iconst 0, 1) := by decide +kernel
theorem dX9_record_9 : decode cX9_record 9 = .ok (.istore_n 1, 1) := by decide +kernel
theorem dX9_record_10 : decode cX9_record 10 = .ok (.iload_n 1, 1) := by decide +kernel
theorem dX9_record_11 : decode cX9_record 11 = .ok (.sipush 255, 3) := by decide +kernel
theorem dX9_record_14 : decode cX9_record 14 = .ok (.if_icmp .ge 24, 3) := by decide +kernel
theorem dX9_record_17 : decode cX9_record 17 = .ok (.aload_n 0, 1) := by decide +kernel
theorem dX9_record_18 : decode cX9_record 18 = .ok (.getfield 16, 3) := by decide +kernel
theorem dX9_record_21 : decode cX9_record 21 = .ok (.iload_n 1, 1) := by decide +kernel
theorem dX9_record_22 : decode cX9_record 22 = .ok (.aload_n 0, 1) := by decide +kernel
theorem dX9_record_23 : decode cX9_record 23 = .ok (.getfield 16, 3) := by decide +kernel
theorem dX9_record_26 : decode cX9_record 26 = .ok (.iload_n 1, 1) := by decide +kernel
theorem dX9_record_27 : decode cX9_record 27 = .ok (.bipush 85, 2) := by decide +kernel
theorem dX9_record_29 : decode cX9_record 29 = .ok (.iadd, 1) := by decide +kernel
theorem dX9_record_30 : decode cX9_record 30 = .ok (.iaload, 1) := by decide +kernel
theorem dX9_record_31 : decode cX9_record 31 = .ok (.iastore, 1) := by decide +kernel
theorem dX9_record_32 : decode cX9_record 32 = .ok (.iinc 1 1, 3) := by decide +kernel
theorem dX9_record_35 : decode cX9_record 35 = .ok (.goto (-25), 3) := by decide +kernel
theorem dX9_record_38 : decode cX9_record 38 = .ok (.aload_n 0, 1) := by decide +kernel
theorem dX9_record_39 : decode cX9_record 39 = .ok (.dup, 1) := by decide +kernel
theorem dX9_record_40 : decode cX9_record 40 = .ok (.getfield 56, 3) := by decide +kernel
theorem dX9_record_43 : decode cX9_record 43 = .ok (.iconst 1, 1) := by decide +kernel
theorem dX9_record_44 : decode cX9_record 44 = .ok (.isub, 1) := by decide +kernel
theorem dX9_record_45 : decode cX9_record 45 = .ok (.putfield 56, 3) := by decide +kernel
theorem dX9_record_48 : decode cX9_record 48 = .ok (.aload_n 0, 1) := by decide +kernel
theorem dX9_record_49 : decode cX9_record 49 = .ok (.getfield 7, 3) := by decide +kernel
theorem dX9_record_52 : decode cX9_record 52 = .ok (.iconst 0, 1) := by decide +kernel
theorem dX9_record_53 : decode cX9_record 53 = .ok (.aload_n 0, 1) := by decide +kernel
theorem dX9_record_54 : decode cX9_record 54 = .ok (.getfield 16, 3) := by decide +kernel
theorem dX9_record_57 : decode cX9_record 57 = .ok (.bipush 85, 2) := by decide +kernel
theorem dX9_record_59 : decode cX9_record 59 = .ok (.aload_n 0, 1) := by decide +kernel
theorem dX9_record_60 : decode cX9_record 60 = .ok (.getfield 56, 3) := by decide +kernel
theorem dX9_record_63 : decode cX9_record 63 = .ok (.imul, 1) := by decide +kernel
theorem dX9_record_64 : decode cX9_record 64 = .ok (.invokestatic 59, 3) := by decide +kernel
theorem dX9_record_67 : decode cX9_record 67 = .ok (.aload_n 0, 1) := by decide +kernel
theorem dX9_record_68 : decode cX9_record 68 = .ok (.dup, 1) := by decide +kernel
theorem dX9_record_69 : decode cX9_record 69 = .ok (.getfield 56, 3) := by decide +kernel
theorem dX9_record_72 : decode cX9_record 72 = .ok (.iconst 1, 1) := by decide +kernel
theorem dX9_record_73 : decode cX9_record 73 = .ok (.iadd, 1) := by decide +kernel
theorem dX9_record_74 : decode cX9_record 74 = .ok (.putfield 56, 3) := by decide +kernel
theorem dX9_record_77 : decode cX9_record 77 = .ok (.return_, 1) := by decide +kernel
theorem dX9_undo_0 : decode cX9_undo 0 = .ok (.aload_n 0, 1) := by decide +kernel
theorem dX9_undo_1 : decode cX9_undo 1 = .ok (.getfield 56, 3) := by decide +kernel
theorem dX9_undo_4 : decode cX9_undo 4 = .ok (.ifCond .ne 6, 3) := by decide +kernel
theorem dX9_undo_7 : decode cX9_undo 7 = .ok (.bipush (-2), 2) := by decide +kernel
theorem dX9_undo_9 : decode cX9_undo 9 = .ok (.ireturn, 1) := by decide +kernel
theorem dX9_undo_10 : decode cX9_undo 10 = .ok (.aload_n 0, 1) := by decide +kernel
theorem dX9_undo_11 : decode cX9_undo 11 = .ok (.dup, 1) := by decide +kernel
theorem dX9_undo_12 : decode cX9_undo 12 = .ok (.getfield 56, 3) := by decide +kernel
theorem dX9_undo_15 : decode cX9_undo 15 = .ok (.iconst 1, 1) := by decide +kernel
theorem dX9_undo_16 : decode cX9_undo 16 = .ok (.isub, 1) := by decide +kernel
theorem dX9_undo_17 : decode cX9_undo 17 = .ok (.putfield 56, 3) := by decide +kernel
theorem dX9_undo_20 : decode cX9_undo 20 = .ok (.aload_n 0, 1) := by decide +kernel
theorem dX9_undo_21 : decode cX9_undo 21 = .ok (.getfield 16, 3) := by decide +kernel
theorem dX9_undo_24 : decode cX9_undo 24 = .ok (.bipush 85, 2) := by decide +kernel
theorem dX9_undo_26 : decode cX9_undo 26 = .ok (.aload_n 0, 1) := by decide +kernel
theorem dX9_undo_27 : decode cX9_undo 27 = .ok (.getfield 56, 3) := by decide +kernel
theorem dX9_undo_30 : decode cX9_undo 30 = .ok (.imul, 1) := by decide +kernel
theorem dX9_undo_31 : decode cX9_undo 31 = .ok (.aload_n 0, 1) := by decide +kernel
theorem dX9_undo_32 : decode cX9_undo 32 = .ok (.getfield 7, 3) := by decide +kernel
theorem dX9_undo_35 : decode cX9_undo 35 = .ok (.iconst 0, 1) := by decide +kernel
theorem dX9_undo_36 : decode cX9_undo 36 = .ok (.invokestatic 59, 3) := by decide +kernel
theorem dX9_undo_39 : decode cX9_undo 39 = .ok (.aload_n 0, 1) := by decide +kernel
theorem dX9_undo_40 : decode cX9_undo 40 = .ok (.getfield 56, 3) := by decide +kernel
theorem dX9_undo_43 : decode cX9_undo 43 = .ok (.ireturn, 1) := by decide +kernel
theorem dX9_openSet_0 : decode cX9_openSet 0 = .ok (.iconst 0, 1) := by decide +kernel
theorem dX9_openSet_1 : decode cX9_openSet 1 = .ok (.istore_n 1, 1) := by decide +kernel
theorem dX9_openSet_2 : decode cX9_openSet 2 = .ok (.iconst 0, 1) := by decide +kernel
theorem dX9_openSet_3 : decode cX9_openSet 3 = .ok (.istore_n 2, 1) := by decide +kernel
theorem dX9_openSet_4 : decode cX9_openSet 4 = .ok (.iload_n 2, 1) := by decide +kernel
theorem dX9_openSet_5 : decode cX9_openSet 5 = .ok (.bipush 10, 2) := by decide +kernel
theorem dX9_openSet_7 : decode cX9_openSet 7 = .ok (.if_icmp .ge 20, 3) := by decide +kernel
theorem dX9_openSet_10 : decode cX9_openSet 10 = .ok (.iload_n 1, 1) := by decide +kernel
theorem dX9_openSet_11 : decode cX9_openSet 11 = .ok (.aload_n 0, 1) := by decide +kernel
theorem dX9_openSet_12 : decode cX9_openSet 12 = .ok (.iload_n 2, 1) := by decide +kernel
theorem dX9_openSet_13 : decode cX9_openSet 13 = .ok (.iconst 0, 1) := by decide +kernel
theorem dX9_openSet_14 : decode cX9_openSet 14 = .ok (.invokevirtual 52, 3) := by decide +kernel
theorem dX9_openSet_17 : decode cX9_openSet 17 = .ok (.iload_n 2, 1) := by decide +kernel
theorem dX9_openSet_18 : decode cX9_openSet 18 = .ok (.ishl, 1) := by decide +kernel
theorem dX9_openSet_19 : decode cX9_openSet 19 = .ok (.ior, 1) := by decide +kernel
theorem dX9_openSet_20 : decode cX9_openSet 20 = .ok (.istore_n 1, 1) := by decide +kernel
theorem dX9_openSet_21 : decode cX9_openSet 21 = .ok (.iinc 2 1, 3) := by decide +kernel
theorem dX9_openSet_24 : decode cX9_openSet 24 = .ok (.goto (-20), 3) := by decide +kernel
theorem dX9_openSet_27 : decode cX9_openSet 27 = .ok (.iload_n 1, 1) := by decide +kernel
theorem dX9_openSet_28 : decode cX9_openSet 28 = .ok (.ireturn, 1) := by decide +kernel
theorem dX9_save_0 : decode cX9_save 0 = .ok (.aload_n 0, 1) := by decide +kernel
theorem dX9_save_1 : decode cX9_save 1 = .ok (.getfield 7, 3) := by decide +kernel
theorem dX9_save_4 : decode cX9_save 4 = .ok (.iconst 0, 1) := by decide +kernel
theorem dX9_save_5 : decode cX9_save 5 = .ok (.aload_n 0, 1) := by decide +kernel
theorem dX9_save_6 : decode cX9_save 6 = .ok (.getfield 19, 3) := by decide +kernel
theorem dX9_save_9 : decode cX9_save 9 = .ok (.iconst 0, 1) := by decide +kernel
theorem dX9_save_10 : decode cX9_save 10 = .ok (.invokestatic 59, 3) := by decide +kernel
theorem dX9_save_13 : decode cX9_save 13 = .ok (.aload_n 0, 1) := by decide +kernel
theorem dX9_save_14 : decode cX9_save 14 = .ok (.iconst 1, 1) := by decide +kernel
theorem dX9_save_15 : decode cX9_save 15 = .ok (.putfield 63, 3) := by decide +kernel
theorem dX9_save_18 : decode cX9_save 18 = .ok (.aload_n 0, 1) := by decide +kernel
theorem dX9_save_19 : decode cX9_save 19 = .ok (.invokevirtual 67, 3) := by decide +kernel
theorem dX9_save_22 : decode cX9_save 22 = .ok (.ireturn, 1) := by decide +kernel
theorem dX9_restore_0 : decode cX9_restore 0 = .ok (.aload_n 0, 1) := by decide +kernel
theorem dX9_restore_1 : decode cX9_restore 1 = .ok (.getfield 63, 3) := by decide +kernel
theorem dX9_restore_4 : decode cX9_restore 4 = .ok (.ifCond .ne 6, 3) := by decide +kernel
theorem dX9_restore_7 : decode cX9_restore 7 = .ok (.bipush (-2), 2) := by decide +kernel
theorem dX9_restore_9 : decode cX9_restore 9 = .ok (.ireturn, 1) := by decide +kernel
theorem dX9_restore_10 : decode cX9_restore 10 = .ok (.aload_n 0, 1) := by decide +kernel
theorem dX9_restore_11 : decode cX9_restore 11 = .ok (.invokevirtual 71, 3) := by decide +kernel
theorem dX9_restore_14 : decode cX9_restore 14 = .ok (.aload_n 0, 1) := by decide +kernel
theorem dX9_restore_15 : decode cX9_restore 15 = .ok (.getfield 19, 3) := by decide +kernel
theorem dX9_restore_18 : decode cX9_restore 18 = .ok (.iconst 0, 1) := by decide +kernel
theorem dX9_restore_19 : decode cX9_restore 19 = .ok (.aload_n 0, 1) := by decide +kernel
theorem dX9_restore_20 : decode cX9_restore 20 = .ok (.getfield 7, 3) := by decide +kernel
theorem dX9_restore_23 : decode cX9_restore 23 = .ok (.iconst 0, 1) := by decide +kernel
theorem dX9_restore_24 : decode cX9_restore 24 = .ok (.invokestatic 59, 3) := by decide +kernel
theorem dX9_restore_27 : decode cX9_restore 27 = .ok (.aload_n 0, 1) := by decide +kernel
theorem dX9_restore_28 : decode cX9_restore 28 = .ok (.invokevirtual 67, 3) := by decide +kernel
theorem dX9_restore_31 : decode cX9_restore 31 = .ok (.ireturn, 1) := by decide +kernel
theorem dX9_cordsTo_0 : decode cX9_cordsTo 0 = .ok (.iconst 0, 1) := by decide +kernel
theorem dX9_cordsTo_1 : decode cX9_cordsTo 1 = .ok (.istore_n 3, 1) := by decide +kernel
theorem dX9_cordsTo_2 : decode cX9_cordsTo 2 = .ok (.iconst 0, 1) := by decide +kernel
theorem dX9_cordsTo_3 : decode cX9_cordsTo 3 = .ok (.istore 4, 2) := by decide +kernel
theorem dX9_cordsTo_5 : decode cX9_cordsTo 5 = .ok (.iload 4, 2) := by decide +kernel
theorem dX9_cordsTo_7 : decode cX9_cordsTo 7 = .ok (.bipush 10, 2) := by decide +kernel
theorem dX9_cordsTo_9 : decode cX9_cordsTo 9 = .ok (.if_icmp .ge 40, 3) := by decide +kernel
theorem dX9_cordsTo_12 : decode cX9_cordsTo 12 = .ok (.iload_n 3, 1) := by decide +kernel
theorem dX9_cordsTo_13 : decode cX9_cordsTo 13 = .ok (.aload_n 0, 1) := by decide +kernel
theorem dX9_cordsTo_14 : decode cX9_cordsTo 14 = .ok (.iload 4, 2) := by decide +kernel
theorem dX9_cordsTo_16 : decode cX9_cordsTo 16 = .ok (.iload_n 1, 1) := by decide +kernel
theorem dX9_cordsTo_17 : decode cX9_cordsTo 17 = .ok (.invokevirtual 74, 3) := by decide +kernel
theorem dX9_cordsTo_20 : decode cX9_cordsTo 20 = .ok (.ifCond .eq 20, 3) := by decide +kernel
theorem dX9_cordsTo_23 : decode cX9_cordsTo 23 = .ok (.iload_n 2, 1) := by decide +kernel
theorem dX9_cordsTo_24 : decode cX9_cordsTo 24 = .ok (.ifCond .eq 12, 3) := by decide +kernel
theorem dX9_cordsTo_27 : decode cX9_cordsTo 27 = .ok (.aload_n 0, 1) := by decide +kernel
theorem dX9_cordsTo_28 : decode cX9_cordsTo 28 = .ok (.iload 4, 2) := by decide +kernel
theorem dX9_cordsTo_30 : decode cX9_cordsTo 30 = .ok (.invokevirtual 78, 3) := by decide +kernel
theorem dX9_cordsTo_33 : decode cX9_cordsTo 33 = .ok (.ifCond .eq 7, 3) := by decide +kernel
theorem dX9_cordsTo_36 : decode cX9_cordsTo 36 = .ok (.iconst 1, 1) := by decide +kernel
theorem dX9_cordsTo_37 : decode cX9_cordsTo 37 = .ok (.goto 4, 3) := by decide +kernel
theorem dX9_cordsTo_40 : decode cX9_cordsTo 40 = .ok (.iconst 0, 1) := by decide +kernel
theorem dX9_cordsTo_41 : decode cX9_cordsTo 41 = .ok (.iadd, 1) := by decide +kernel
theorem dX9_cordsTo_42 : decode cX9_cordsTo 42 = .ok (.istore_n 3, 1) := by decide +kernel
theorem dX9_cordsTo_43 : decode cX9_cordsTo 43 = .ok (.iinc 4 1, 3) := by decide +kernel
theorem dX9_cordsTo_46 : decode cX9_cordsTo 46 = .ok (.goto (-41), 3) := by decide +kernel
theorem dX9_cordsTo_49 : decode cX9_cordsTo 49 = .ok (.iload_n 3, 1) := by decide +kernel
theorem dX9_cordsTo_50 : decode cX9_cordsTo 50 = .ok (.ireturn, 1) := by decide +kernel
theorem dX9_reason_0 : decode cX9_reason 0 = .ok (.aload_n 0, 1) := by decide +kernel
theorem dX9_reason_1 : decode cX9_reason 1 = .ok (.iload_n 1, 1) := by decide +kernel
theorem dX9_reason_2 : decode cX9_reason 2 = .ok (.invokevirtual 78, 3) := by decide +kernel
theorem dX9_reason_5 : decode cX9_reason 5 = .ok (.ifCond .eq 7, 3) := by decide +kernel
theorem dX9_reason_8 : decode cX9_reason 8 = .ok (.iconst 1, 1) := by decide +kernel
theorem dX9_reason_9 : decode cX9_reason 9 = .ok (.goto 17, 3) := by decide +kernel
theorem dX9_reason_12 : decode cX9_reason 12 = .ok (.aload_n 0, 1) := by decide +kernel
theorem dX9_reason_13 : decode cX9_reason 13 = .ok (.iload_n 1, 1) := by decide +kernel
theorem dX9_reason_14 : decode cX9_reason 14 = .ok (.iconst 1, 1) := by decide +kernel
theorem dX9_reason_15 : decode cX9_reason 15 = .ok (.invokevirtual 82, 3) := by decide +kernel
theorem dX9_reason_18 : decode cX9_reason 18 = .ok (.ifCond .le 7, 3) := by decide +kernel
theorem dX9_reason_21 : decode cX9_reason 21 = .ok (.iconst 2, 1) := by decide +kernel
theorem dX9_reason_22 : decode cX9_reason 22 = .ok (.goto 4, 3) := by decide +kernel
theorem dX9_reason_25 : decode cX9_reason 25 = .ok (.iconst 0, 1) := by decide +kernel
theorem dX9_reason_26 : decode cX9_reason 26 = .ok (.ireturn, 1) := by decide +kernel
theorem dX9_openIn_0 : decode cX9_openIn 0 = .ok (.iconst 0, 1) := by decide +kernel
theorem dX9_openIn_1 : decode cX9_openIn 1 = .ok (.istore_n 2, 1) := by decide +kernel
theorem dX9_openIn_2 : decode cX9_openIn 2 = .ok (.iconst 0, 1) := by decide +kernel
theorem dX9_openIn_3 : decode cX9_openIn 3 = .ok (.istore_n 3, 1) := by decide +kernel
theorem dX9_openIn_4 : decode cX9_openIn 4 = .ok (.iload_n 3, 1) := by decide +kernel
theorem dX9_openIn_5 : decode cX9_openIn 5 = .ok (.bipush 10, 2) := by decide +kernel
theorem dX9_openIn_7 : decode cX9_openIn 7 = .ok (.if_icmp .ge 34, 3) := by decide +kernel
theorem dX9_openIn_10 : decode cX9_openIn 10 = .ok (.iload_n 2, 1) := by decide +kernel
theorem dX9_openIn_11 : decode cX9_openIn 11 = .ok (.aload_n 0, 1) := by decide +kernel
theorem dX9_openIn_12 : decode cX9_openIn 12 = .ok (.iload_n 3, 1) := by decide +kernel
theorem dX9_openIn_13 : decode cX9_openIn 13 = .ok (.invokevirtual 78, 3) := by decide +kernel
theorem dX9_openIn_16 : decode cX9_openIn 16 = .ok (.ifCond .eq 16, 3) := by decide +kernel
theorem dX9_openIn_19 : decode cX9_openIn 19 = .ok (.aload_n 0, 1) := by decide +kernel
theorem dX9_openIn_20 : decode cX9_openIn 20 = .ok (.iload_n 3, 1) := by decide +kernel
theorem dX9_openIn_21 : decode cX9_openIn 21 = .ok (.iload_n 1, 1) := by decide +kernel
theorem dX9_openIn_22 : decode cX9_openIn 22 = .ok (.invokevirtual 86, 3) := by decide +kernel
theorem dX9_openIn_25 : decode cX9_openIn 25 = .ok (.ifCond .eq 7, 3) := by decide +kernel
theorem dX9_openIn_28 : decode cX9_openIn 28 = .ok (.iconst 1, 1) := by decide +kernel
theorem dX9_openIn_29 : decode cX9_openIn 29 = .ok (.goto 4, 3) := by decide +kernel
theorem dX9_openIn_32 : decode cX9_openIn 32 = .ok (.iconst 0, 1) := by decide +kernel
theorem dX9_openIn_33 : decode cX9_openIn 33 = .ok (.iadd, 1) := by decide +kernel
theorem dX9_openIn_34 : decode cX9_openIn 34 = .ok (.istore_n 2, 1) := by decide +kernel
theorem dX9_openIn_35 : decode cX9_openIn 35 = .ok (.iinc 3 1, 3) := by decide +kernel
theorem dX9_openIn_38 : decode cX9_openIn 38 = .ok (.goto (-34), 3) := by decide +kernel
theorem dX9_openIn_41 : decode cX9_openIn 41 = .ok (.iload_n 2, 1) := by decide +kernel
theorem dX9_openIn_42 : decode cX9_openIn 42 = .ok (.ireturn, 1) := by decide +kernel
theorem dX9_shuts_0 : decode cX9_shuts 0 = .ok (.aload_n 0, 1) := by decide +kernel
theorem dX9_shuts_1 : decode cX9_shuts 1 = .ok (.iload_n 1, 1) := by decide +kernel
theorem dX9_shuts_2 : decode cX9_shuts 2 = .ok (.iconst 0, 1) := by decide +kernel
theorem dX9_shuts_3 : decode cX9_shuts 3 = .ok (.iconst 0, 1) := by decide +kernel
theorem dX9_shuts_4 : decode cX9_shuts 4 = .ok (.invokevirtual 44, 3) := by decide +kernel
theorem dX9_shuts_7 : decode cX9_shuts 7 = .ok (.aload_n 0, 1) := by decide +kernel
theorem dX9_shuts_8 : decode cX9_shuts 8 = .ok (.iload_n 1, 1) := by decide +kernel
theorem dX9_shuts_9 : decode cX9_shuts 9 = .ok (.bipush 6, 2) := by decide +kernel
theorem dX9_shuts_11 : decode cX9_shuts 11 = .ok (.aload_n 0, 1) := by decide +kernel
theorem dX9_shuts_12 : decode cX9_shuts 12 = .ok (.iload_n 1, 1) := by decide +kernel
theorem dX9_shuts_13 : decode cX9_shuts 13 = .ok (.bipush 6, 2) := by decide +kernel
theorem dX9_shuts_15 : decode cX9_shuts 15 = .ok (.invokevirtual 52, 3) := by decide +kernel
theorem dX9_shuts_18 : decode cX9_shuts 18 = .ok (.iconst 1, 1) := by decide +kernel
theorem dX9_shuts_19 : decode cX9_shuts 19 = .ok (.iadd, 1) := by decide +kernel
theorem dX9_shuts_20 : decode cX9_shuts 20 = .ok (.invokevirtual 44, 3) := by decide +kernel
theorem dX9_shuts_23 : decode cX9_shuts 23 = .ok (.aload_n 0, 1) := by decide +kernel
theorem dX9_shuts_24 : decode cX9_shuts 24 = .ok (.getfield 7, 3) := by decide +kernel
theorem dX9_shuts_27 : decode cX9_shuts 27 = .ok (.iload_n 2, 1) := by decide +kernel
theorem dX9_shuts_28 : decode cX9_shuts 28 = .ok (.dup2, 1) := by decide +kernel
theorem dX9_shuts_29 : decode cX9_shuts 29 = .ok (.iaload, 1) := by decide +kernel
theorem dX9_shuts_30 : decode cX9_shuts 30 = .ok (.iconst 1, 1) := by decide +kernel
theorem dX9_shuts_31 : decode cX9_shuts 31 = .ok (.iadd, 1) := by decide +kernel
theorem dX9_shuts_32 : decode cX9_shuts 32 = .ok (.iastore, 1) := by decide +kernel
theorem dX9_shuts_33 : decode cX9_shuts 33 = .ok (.return_, 1) := by decide +kernel
theorem dX9_lowestIn_0 : decode cX9_lowestIn 0 = .ok (.bipush (-4), 2) := by decide +kernel
theorem dX9_lowestIn_2 : decode cX9_lowestIn 2 = .ok (.istore_n 3, 1) := by decide +kernel
theorem dX9_lowestIn_3 : decode cX9_lowestIn 3 = .ok (.bipush 9, 2) := by decide +kernel
theorem dX9_lowestIn_5 : decode cX9_lowestIn 5 = .ok (.istore 4, 2) := by decide +kernel
theorem dX9_lowestIn_7 : decode cX9_lowestIn 7 = .ok (.iload 4, 2) := by decide +kernel
theorem dX9_lowestIn_9 : decode cX9_lowestIn 9 = .ok (.ifCond .lt 41, 3) := by decide +kernel
theorem dX9_lowestIn_12 : decode cX9_lowestIn 12 = .ok (.iload 4, 2) := by decide +kernel
theorem dX9_lowestIn_14 : decode cX9_lowestIn 14 = .ok (.iload_n 2, 1) := by decide +kernel
theorem dX9_lowestIn_15 : decode cX9_lowestIn 15 = .ok (.if_icmp .eq 27, 3) := by decide +kernel
theorem dX9_lowestIn_18 : decode cX9_lowestIn 18 = .ok (.aload_n 0, 1) := by decide +kernel
theorem dX9_lowestIn_19 : decode cX9_lowestIn 19 = .ok (.iload 4, 2) := by decide +kernel
theorem dX9_lowestIn_21 : decode cX9_lowestIn 21 = .ok (.invokevirtual 78, 3) := by decide +kernel
theorem dX9_lowestIn_24 : decode cX9_lowestIn 24 = .ok (.ifCond .eq 18, 3) := by decide +kernel
theorem dX9_lowestIn_27 : decode cX9_lowestIn 27 = .ok (.aload_n 0, 1) := by decide +kernel
theorem dX9_lowestIn_28 : decode cX9_lowestIn 28 = .ok (.iload 4, 2) := by decide +kernel
theorem dX9_lowestIn_30 : decode cX9_lowestIn 30 = .ok (.iload_n 1, 1) := by decide +kernel
theorem dX9_lowestIn_31 : decode cX9_lowestIn 31 = .ok (.invokevirtual 86, 3) := by decide +kernel
theorem dX9_lowestIn_34 : decode cX9_lowestIn 34 = .ok (.ifCond .eq 8, 3) := by decide +kernel
theorem dX9_lowestIn_37 : decode cX9_lowestIn 37 = .ok (.iload 4, 2) := by decide +kernel
theorem dX9_lowestIn_39 : decode cX9_lowestIn 39 = .ok (.goto 4, 3) := by decide +kernel
theorem dX9_lowestIn_42 : decode cX9_lowestIn 42 = .ok (.iload_n 3, 1) := by decide +kernel
theorem dX9_lowestIn_43 : decode cX9_lowestIn 43 = .ok (.istore_n 3, 1) := by decide +kernel
theorem dX9_lowestIn_44 : decode cX9_lowestIn 44 = .ok (.iinc 4 (-1), 3) := by decide +kernel
theorem dX9_lowestIn_47 : decode cX9_lowestIn 47 = .ok (.goto (-40), 3) := by decide +kernel
theorem dX9_lowestIn_50 : decode cX9_lowestIn 50 = .ok (.iload_n 3, 1) := by decide +kernel
theorem dX9_lowestIn_51 : decode cX9_lowestIn 51 = .ok (.ireturn, 1) := by decide +kernel
theorem dX9_opens_0 : decode cX9_opens 0 = .ok (.iconst 0, 1) := by decide +kernel
theorem dX9_opens_1 : decode cX9_opens 1 = .ok (.istore_n 2, 1) := by decide +kernel
theorem dX9_opens_2 : decode cX9_opens 2 = .ok (.aload_n 0, 1) := by decide +kernel
theorem dX9_opens_3 : decode cX9_opens 3 = .ok (.iload_n 1, 1) := by decide +kernel
theorem dX9_opens_4 : decode cX9_opens 4 = .ok (.iconst 0, 1) := by decide +kernel
theorem dX9_opens_5 : decode cX9_opens 5 = .ok (.iconst 1, 1) := by decide +kernel
theorem dX9_opens_6 : decode cX9_opens 6 = .ok (.invokevirtual 44, 3) := by decide +kernel
theorem dX9_opens_9 : decode cX9_opens 9 = .ok (.aload_n 0, 1) := by decide +kernel
theorem dX9_opens_10 : decode cX9_opens 10 = .ok (.iload_n 1, 1) := by decide +kernel
theorem dX9_opens_11 : decode cX9_opens 11 = .ok (.iconst 5, 1) := by decide +kernel
theorem dX9_opens_12 : decode cX9_opens 12 = .ok (.aload_n 0, 1) := by decide +kernel
theorem dX9_opens_13 : decode cX9_opens 13 = .ok (.iload_n 1, 1) := by decide +kernel
theorem dX9_opens_14 : decode cX9_opens 14 = .ok (.iconst 5, 1) := by decide +kernel
theorem dX9_opens_15 : decode cX9_opens 15 = .ok (.invokevirtual 52, 3) := by decide +kernel
theorem dX9_opens_18 : decode cX9_opens 18 = .ok (.iconst 1, 1) := by decide +kernel
theorem dX9_opens_19 : decode cX9_opens 19 = .ok (.iadd, 1) := by decide +kernel
theorem dX9_opens_20 : decode cX9_opens 20 = .ok (.invokevirtual 44, 3) := by decide +kernel
theorem dX9_opens_23 : decode cX9_opens 23 = .ok (.aload_n 0, 1) := by decide +kernel
theorem dX9_opens_24 : decode cX9_opens 24 = .ok (.getfield 7, 3) := by decide +kernel
theorem dX9_opens_27 : decode cX9_opens 27 = .ok (.iconst 1, 1) := by decide +kernel
theorem dX9_opens_28 : decode cX9_opens 28 = .ok (.dup2, 1) := by decide +kernel
theorem dX9_opens_29 : decode cX9_opens 29 = .ok (.iaload, 1) := by decide +kernel
theorem dX9_opens_30 : decode cX9_opens 30 = .ok (.iconst 1, 1) := by decide +kernel
theorem dX9_opens_31 : decode cX9_opens 31 = .ok (.iadd, 1) := by decide +kernel
theorem dX9_opens_32 : decode cX9_opens 32 = .ok (.iastore, 1) := by decide +kernel
theorem dX9_opens_33 : decode cX9_opens 33 = .ok (.iconst 0, 1) := by decide +kernel
theorem dX9_opens_34 : decode cX9_opens 34 = .ok (.istore_n 3, 1) := by decide +kernel
theorem dX9_opens_35 : decode cX9_opens 35 = .ok (.iload_n 3, 1) := by decide +kernel
theorem dX9_opens_36 : decode cX9_opens 36 = .ok (.bipush 10, 2) := by decide +kernel
theorem dX9_opens_38 : decode cX9_opens 38 = .ok (.if_icmp .ge 35, 3) := by decide +kernel
theorem dX9_opens_41 : decode cX9_opens 41 = .ok (.aload_n 0, 1) := by decide +kernel
theorem dX9_opens_42 : decode cX9_opens 42 = .ok (.iload_n 1, 1) := by decide +kernel
theorem dX9_opens_43 : decode cX9_opens 43 = .ok (.iload_n 3, 1) := by decide +kernel
theorem dX9_opens_44 : decode cX9_opens 44 = .ok (.invokevirtual 74, 3) := by decide +kernel
theorem dX9_opens_47 : decode cX9_opens 47 = .ok (.ifCond .eq 20, 3) := by decide +kernel
theorem dX9_opens_50 : decode cX9_opens 50 = .ok (.aload_n 0, 1) := by decide +kernel
theorem dX9_opens_51 : decode cX9_opens 51 = .ok (.iload_n 3, 1) := by decide +kernel
theorem dX9_opens_52 : decode cX9_opens 52 = .ok (.invokevirtual 78, 3) := by decide +kernel
theorem dX9_opens_55 : decode cX9_opens 55 = .ok (.ifCond .eq 12, 3) := by decide +kernel
theorem dX9_opens_58 : decode cX9_opens 58 = .ok (.aload_n 0, 1) := by decide +kernel
theorem dX9_opens_59 : decode cX9_opens 59 = .ok (.iload_n 3, 1) := by decide +kernel
theorem dX9_opens_60 : decode cX9_opens 60 = .ok (.iconst 3, 1) := by decide +kernel
theorem dX9_opens_61 : decode cX9_opens 61 = .ok (.invokevirtual 89, 3) := by decide +kernel
theorem dX9_opens_64 : decode cX9_opens 64 = .ok (.iinc 2 1, 3) := by decide +kernel
theorem dX9_opens_67 : decode cX9_opens 67 = .ok (.iinc 3 1, 3) := by decide +kernel
theorem dX9_opens_70 : decode cX9_opens 70 = .ok (.goto (-35), 3) := by decide +kernel
theorem dX9_opens_73 : decode cX9_opens 73 = .ok (.iconst 0, 1) := by decide +kernel
theorem dX9_opens_74 : decode cX9_opens 74 = .ok (.istore_n 3, 1) := by decide +kernel
theorem dX9_opens_75 : decode cX9_opens 75 = .ok (.iload_n 3, 1) := by decide +kernel
theorem dX9_opens_76 : decode cX9_opens 76 = .ok (.bipush 6, 2) := by decide +kernel
theorem dX9_opens_78 : decode cX9_opens 78 = .ok (.if_icmp .ge 40, 3) := by decide +kernel
theorem dX9_opens_81 : decode cX9_opens 81 = .ok (.aload_n 0, 1) := by decide +kernel
theorem dX9_opens_82 : decode cX9_opens 82 = .ok (.iload_n 3, 1) := by decide +kernel
theorem dX9_opens_83 : decode cX9_opens 83 = .ok (.invokevirtual 93, 3) := by decide +kernel
theorem dX9_opens_86 : decode cX9_opens 86 = .ok (.aload_n 0, 1) := by decide +kernel
theorem dX9_opens_87 : decode cX9_opens 87 = .ok (.getfield 7, 3) := by decide +kernel
theorem dX9_opens_90 : decode cX9_opens 90 = .ok (.iconst 0, 1) := by decide +kernel
theorem dX9_opens_91 : decode cX9_opens 91 = .ok (.iaload, 1) := by decide +kernel
theorem dX9_opens_92 : decode cX9_opens 92 = .ok (.if_icmp .le 20, 3) := by decide +kernel
theorem dX9_opens_95 : decode cX9_opens 95 = .ok (.aload_n 0, 1) := by decide +kernel
theorem dX9_opens_96 : decode cX9_opens 96 = .ok (.aload_n 0, 1) := by decide +kernel
theorem dX9_opens_97 : decode cX9_opens 97 = .ok (.iload_n 3, 1) := by decide +kernel
theorem dX9_opens_98 : decode cX9_opens 98 = .ok (.iload_n 1, 1) := by decide +kernel
theorem dX9_opens_99 : decode cX9_opens 99 = .ok (.invokevirtual 97, 3) := by decide +kernel
theorem dX9_opens_102 : decode cX9_opens 102 = .ok (.iconst 4, 1) := by decide +kernel
theorem dX9_opens_103 : decode cX9_opens 103 = .ok (.invokevirtual 89, 3) := by decide +kernel
theorem dX9_opens_106 : decode cX9_opens 106 = .ok (.iinc 2 1, 3) := by decide +kernel
theorem dX9_opens_109 : decode cX9_opens 109 = .ok (.goto (-28), 3) := by decide +kernel
theorem dX9_opens_112 : decode cX9_opens 112 = .ok (.iinc 3 1, 3) := by decide +kernel
theorem dX9_opens_115 : decode cX9_opens 115 = .ok (.goto (-40), 3) := by decide +kernel
theorem dX9_opens_118 : decode cX9_opens 118 = .ok (.iload_n 2, 1) := by decide +kernel
theorem dX9_opens_119 : decode cX9_opens 119 = .ok (.ireturn, 1) := by decide +kernel
theorem dX9_refuse_0 : decode cX9_refuse 0 = .ok (.aload_n 0, 1) := by decide +kernel
theorem dX9_refuse_1 : decode cX9_refuse 1 = .ok (.getfield 7, 3) := by decide +kernel
theorem dX9_refuse_4 : decode cX9_refuse 4 = .ok (.iconst 5, 1) := by decide +kernel
theorem dX9_refuse_5 : decode cX9_refuse 5 = .ok (.dup2, 1) := by decide +kernel
theorem dX9_refuse_6 : decode cX9_refuse 6 = .ok (.iaload, 1) := by decide +kernel
theorem dX9_refuse_7 : decode cX9_refuse 7 = .ok (.iconst 1, 1) := by decide +kernel
theorem dX9_refuse_8 : decode cX9_refuse 8 = .ok (.iadd, 1) := by decide +kernel
theorem dX9_refuse_9 : decode cX9_refuse 9 = .ok (.iastore, 1) := by decide +kernel
theorem dX9_refuse_10 : decode cX9_refuse 10 = .ok (.iload_n 1, 1) := by decide +kernel
theorem dX9_refuse_11 : decode cX9_refuse 11 = .ok (.ireturn, 1) := by decide +kernel
theorem dX9_openNow_0 : decode cX9_openNow 0 = .ok (.aload_n 0, 1) := by decide +kernel
theorem dX9_openNow_1 : decode cX9_openNow 1 = .ok (.iload_n 1, 1) := by decide +kernel
theorem dX9_openNow_2 : decode cX9_openNow 2 = .ok (.invokevirtual 100, 3) := by decide +kernel
theorem dX9_openNow_5 : decode cX9_openNow 5 = .ok (.istore_n 2, 1) := by decide +kernel
theorem dX9_openNow_6 : decode cX9_openNow 6 = .ok (.iload_n 2, 1) := by decide +kernel
theorem dX9_openNow_7 : decode cX9_openNow 7 = .ok (.ifCond .le 11, 3) := by decide +kernel
theorem dX9_openNow_10 : decode cX9_openNow 10 = .ok (.aload_n 0, 1) := by decide +kernel
theorem dX9_openNow_11 : decode cX9_openNow 11 = .ok (.iload_n 2, 1) := by decide +kernel
theorem dX9_openNow_12 : decode cX9_openNow 12 = .ok (.invokevirtual 103, 3) := by decide +kernel
theorem dX9_openNow_15 : decode cX9_openNow 15 = .ok (.goto 11, 3) := by decide +kernel
theorem dX9_openNow_18 : decode cX9_openNow 18 = .ok (.bipush 10, 2) := by decide +kernel
theorem dX9_openNow_20 : decode cX9_openNow 20 = .ok (.aload_n 0, 1) := by decide +kernel
theorem dX9_openNow_21 : decode cX9_openNow 21 = .ok (.iload_n 1, 1) := by decide +kernel
theorem dX9_openNow_22 : decode cX9_openNow 22 = .ok (.invokevirtual 106, 3) := by decide +kernel
theorem dX9_openNow_25 : decode cX9_openNow 25 = .ok (.iadd, 1) := by decide +kernel
theorem dX9_openNow_26 : decode cX9_openNow 26 = .ok (.ireturn, 1) := by decide +kernel
theorem dX9_shutNow_0 : decode cX9_shutNow 0 = .ok (.aload_n 0, 1) := by decide +kernel
theorem dX9_shutNow_1 : decode cX9_shutNow 1 = .ok (.iload_n 1, 1) := by decide +kernel
theorem dX9_shutNow_2 : decode cX9_shutNow 2 = .ok (.invokevirtual 78, 3) := by decide +kernel
theorem dX9_shutNow_5 : decode cX9_shutNow 5 = .ok (.ifCond .ne 9, 3) := by decide +kernel
theorem dX9_shutNow_8 : decode cX9_shutNow 8 = .ok (.aload_n 0, 1) := by decide +kernel
theorem dX9_shutNow_9 : decode cX9_shutNow 9 = .ok (.iconst 3, 1) := by decide +kernel
theorem dX9_shutNow_10 : decode cX9_shutNow 10 = .ok (.invokevirtual 103, 3) := by decide +kernel
theorem dX9_shutNow_13 : decode cX9_shutNow 13 = .ok (.ireturn, 1) := by decide +kernel
theorem dX9_shutNow_14 : decode cX9_shutNow 14 = .ok (.aload_n 0, 1) := by decide +kernel
theorem dX9_shutNow_15 : decode cX9_shutNow 15 = .ok (.iload_n 1, 1) := by decide +kernel
theorem dX9_shutNow_16 : decode cX9_shutNow 16 = .ok (.iconst 2, 1) := by decide +kernel
theorem dX9_shutNow_17 : decode cX9_shutNow 17 = .ok (.invokevirtual 89, 3) := by decide +kernel
theorem dX9_shutNow_20 : decode cX9_shutNow 20 = .ok (.bipush 10, 2) := by decide +kernel
theorem dX9_shutNow_22 : decode cX9_shutNow 22 = .ok (.ireturn, 1) := by decide +kernel
theorem dX9_isAt_0 : decode cX9_isAt 0 = .ok (.aload_n 0, 1) := by decide +kernel
theorem dX9_isAt_1 : decode cX9_isAt 1 = .ok (.iload_n 2, 1) := by decide +kernel
theorem dX9_isAt_2 : decode cX9_isAt 2 = .ok (.aload_n 0, 1) := by decide +kernel
theorem dX9_isAt_3 : decode cX9_isAt 3 = .ok (.iload_n 1, 1) := by decide +kernel
theorem dX9_isAt_4 : decode cX9_isAt 4 = .ok (.iconst 0, 1) := by decide +kernel
theorem dX9_isAt_5 : decode cX9_isAt 5 = .ok (.invokevirtual 109, 3) := by decide +kernel
theorem dX9_isAt_8 : decode cX9_isAt 8 = .ok (.invokevirtual 86, 3) := by decide +kernel
theorem dX9_isAt_11 : decode cX9_isAt 11 = .ok (.ireturn, 1) := by decide +kernel
theorem dX9_hasKey_0 : decode cX9_hasKey 0 = .ok (.aload_n 0, 1) := by decide +kernel
theorem dX9_hasKey_1 : decode cX9_hasKey 1 = .ok (.iload_n 1, 1) := by decide +kernel
theorem dX9_hasKey_2 : decode cX9_hasKey 2 = .ok (.iconst 1, 1) := by decide +kernel
theorem dX9_hasKey_3 : decode cX9_hasKey 3 = .ok (.invokevirtual 109, 3) := by decide +kernel
theorem dX9_hasKey_6 : decode cX9_hasKey 6 = .ok (.iload_n 2, 1) := by decide +kernel
theorem dX9_hasKey_7 : decode cX9_hasKey 7 = .ok (.ishr, 1) := by decide +kernel
theorem dX9_hasKey_8 : decode cX9_hasKey 8 = .ok (.iconst 1, 1) := by decide +kernel
theorem dX9_hasKey_9 : decode cX9_hasKey 9 = .ok (.iand, 1) := by decide +kernel
theorem dX9_hasKey_10 : decode cX9_hasKey 10 = .ok (.iconst 1, 1) := by decide +kernel
theorem dX9_hasKey_11 : decode cX9_hasKey 11 = .ok (.if_icmp .ne 7, 3) := by decide +kernel
theorem dX9_hasKey_14 : decode cX9_hasKey 14 = .ok (.iconst 1, 1) := by decide +kernel
theorem dX9_hasKey_15 : decode cX9_hasKey 15 = .ok (.goto 4, 3) := by decide +kernel
theorem dX9_hasKey_18 : decode cX9_hasKey 18 = .ok (.iconst 0, 1) := by decide +kernel
theorem dX9_hasKey_19 : decode cX9_hasKey 19 = .ok (.ireturn, 1) := by decide +kernel
theorem dX9_guestOpensNow_0 : decode cX9_guestOpensNow 0 = .ok (.aload_n 0, 1) := by decide +kernel
theorem dX9_guestOpensNow_1 : decode cX9_guestOpensNow 1 = .ok (.iload_n 1, 1) := by decide +kernel
theorem dX9_guestOpensNow_2 : decode cX9_guestOpensNow 2 = .ok (.iload_n 2, 1) := by decide +kernel
theorem dX9_guestOpensNow_3 : decode cX9_guestOpensNow 3 = .ok (.invokevirtual 112, 3) := by decide +kernel
theorem dX9_guestOpensNow_6 : decode cX9_guestOpensNow 6 = .ok (.ifCond .ne 11, 3) := by decide +kernel
theorem dX9_guestOpensNow_9 : decode cX9_guestOpensNow 9 = .ok (.aload_n 0, 1) := by decide +kernel
theorem dX9_guestOpensNow_10 : decode cX9_guestOpensNow 10 = .ok (.iconst 5, 1) := by decide +kernel
theorem dX9_guestOpensNow_11 : decode cX9_guestOpensNow 11 = .ok (.invokevirtual 103, 3) := by decide +kernel
theorem dX9_guestOpensNow_14 : decode cX9_guestOpensNow 14 = .ok (.goto 26, 3) := by decide +kernel
theorem dX9_guestOpensNow_17 : decode cX9_guestOpensNow 17 = .ok (.aload_n 0, 1) := by decide +kernel
theorem dX9_guestOpensNow_18 : decode cX9_guestOpensNow 18 = .ok (.iload_n 1, 1) := by decide +kernel
theorem dX9_guestOpensNow_19 : decode cX9_guestOpensNow 19 = .ok (.iload_n 2, 1) := by decide +kernel
theorem dX9_guestOpensNow_20 : decode cX9_guestOpensNow 20 = .ok (.invokevirtual 115, 3) := by decide +kernel
theorem dX9_guestOpensNow_23 : decode cX9_guestOpensNow 23 = .ok (.ifCond .eq 11, 3) := by decide +kernel
theorem dX9_guestOpensNow_26 : decode cX9_guestOpensNow 26 = .ok (.aload_n 0, 1) := by decide +kernel
theorem dX9_guestOpensNow_27 : decode cX9_guestOpensNow 27 = .ok (.iload_n 2, 1) := by decide +kernel
theorem dX9_guestOpensNow_28 : decode cX9_guestOpensNow 28 = .ok (.invokevirtual 118, 3) := by decide +kernel
theorem dX9_guestOpensNow_31 : decode cX9_guestOpensNow 31 = .ok (.goto 9, 3) := by decide +kernel
theorem dX9_guestOpensNow_34 : decode cX9_guestOpensNow 34 = .ok (.aload_n 0, 1) := by decide +kernel
theorem dX9_guestOpensNow_35 : decode cX9_guestOpensNow 35 = .ok (.bipush 6, 2) := by decide +kernel
theorem dX9_guestOpensNow_37 : decode cX9_guestOpensNow 37 = .ok (.invokevirtual 103, 3) := by decide +kernel
theorem dX9_guestOpensNow_40 : decode cX9_guestOpensNow 40 = .ok (.ireturn, 1) := by decide +kernel
theorem dX9_guestShutsNow_0 : decode cX9_guestShutsNow 0 = .ok (.aload_n 0, 1) := by decide +kernel
theorem dX9_guestShutsNow_1 : decode cX9_guestShutsNow 1 = .ok (.iload_n 1, 1) := by decide +kernel
theorem dX9_guestShutsNow_2 : decode cX9_guestShutsNow 2 = .ok (.iload_n 2, 1) := by decide +kernel
theorem dX9_guestShutsNow_3 : decode cX9_guestShutsNow 3 = .ok (.invokevirtual 112, 3) := by decide +kernel
theorem dX9_guestShutsNow_6 : decode cX9_guestShutsNow 6 = .ok (.ifCond .eq 11, 3) := by decide +kernel
theorem dX9_guestShutsNow_9 : decode cX9_guestShutsNow 9 = .ok (.aload_n 0, 1) := by decide +kernel
theorem dX9_guestShutsNow_10 : decode cX9_guestShutsNow 10 = .ok (.iload_n 2, 1) := by decide +kernel
theorem dX9_guestShutsNow_11 : decode cX9_guestShutsNow 11 = .ok (.invokevirtual 121, 3) := by decide +kernel
theorem dX9_guestShutsNow_14 : decode cX9_guestShutsNow 14 = .ok (.goto 8, 3) := by decide +kernel
theorem dX9_guestShutsNow_17 : decode cX9_guestShutsNow 17 = .ok (.aload_n 0, 1) := by decide +kernel
theorem dX9_guestShutsNow_18 : decode cX9_guestShutsNow 18 = .ok (.iconst 5, 1) := by decide +kernel
theorem dX9_guestShutsNow_19 : decode cX9_guestShutsNow 19 = .ok (.invokevirtual 103, 3) := by decide +kernel
theorem dX9_guestShutsNow_22 : decode cX9_guestShutsNow 22 = .ok (.ireturn, 1) := by decide +kernel
theorem dX9_across_0 : decode cX9_across 0 = .ok (.aload_n 0, 1) := by decide +kernel
theorem dX9_across_1 : decode cX9_across 1 = .ok (.iload_n 1, 1) := by decide +kernel
theorem dX9_across_2 : decode cX9_across 2 = .ok (.iconst 1, 1) := by decide +kernel
theorem dX9_across_3 : decode cX9_across 3 = .ok (.invokevirtual 52, 3) := by decide +kernel
theorem dX9_across_6 : decode cX9_across 6 = .ok (.iload_n 2, 1) := by decide +kernel
theorem dX9_across_7 : decode cX9_across 7 = .ok (.if_icmp .ne 12, 3) := by decide +kernel
theorem dX9_across_10 : decode cX9_across 10 = .ok (.aload_n 0, 1) := by decide +kernel
theorem dX9_across_11 : decode cX9_across 11 = .ok (.iload_n 1, 1) := by decide +kernel
theorem dX9_across_12 : decode cX9_across 12 = .ok (.iconst 2, 1) := by decide +kernel
theorem dX9_across_13 : decode cX9_across 13 = .ok (.invokevirtual 52, 3) := by decide +kernel
theorem dX9_across_16 : decode cX9_across 16 = .ok (.goto 9, 3) := by decide +kernel
theorem dX9_across_19 : decode cX9_across 19 = .ok (.aload_n 0, 1) := by decide +kernel
theorem dX9_across_20 : decode cX9_across 20 = .ok (.iload_n 1, 1) := by decide +kernel
theorem dX9_across_21 : decode cX9_across 21 = .ok (.iconst 1, 1) := by decide +kernel
theorem dX9_across_22 : decode cX9_across 22 = .ok (.invokevirtual 52, 3) := by decide +kernel
theorem dX9_across_25 : decode cX9_across 25 = .ok (.ireturn, 1) := by decide +kernel
theorem dX9_walkNow_0 : decode cX9_walkNow 0 = .ok (.aload_n 0, 1) := by decide +kernel
theorem dX9_walkNow_1 : decode cX9_walkNow 1 = .ok (.iload_n 1, 1) := by decide +kernel
theorem dX9_walkNow_2 : decode cX9_walkNow 2 = .ok (.iload_n 2, 1) := by decide +kernel
theorem dX9_walkNow_3 : decode cX9_walkNow 3 = .ok (.invokevirtual 112, 3) := by decide +kernel
theorem dX9_walkNow_6 : decode cX9_walkNow 6 = .ok (.ifCond .eq 11, 3) := by decide +kernel
theorem dX9_walkNow_9 : decode cX9_walkNow 9 = .ok (.aload_n 0, 1) := by decide +kernel
theorem dX9_walkNow_10 : decode cX9_walkNow 10 = .ok (.iload_n 2, 1) := by decide +kernel
theorem dX9_walkNow_11 : decode cX9_walkNow 11 = .ok (.invokevirtual 78, 3) := by decide +kernel
theorem dX9_walkNow_14 : decode cX9_walkNow 14 = .ok (.ifCond .ne 22, 3) := by decide +kernel
theorem dX9_walkNow_17 : decode cX9_walkNow 17 = .ok (.aload_n 0, 1) := by decide +kernel
theorem dX9_walkNow_18 : decode cX9_walkNow 18 = .ok (.aload_n 0, 1) := by decide +kernel
theorem dX9_walkNow_19 : decode cX9_walkNow 19 = .ok (.iload_n 1, 1) := by decide +kernel
theorem dX9_walkNow_20 : decode cX9_walkNow 20 = .ok (.iload_n 2, 1) := by decide +kernel
theorem dX9_walkNow_21 : decode cX9_walkNow 21 = .ok (.invokevirtual 112, 3) := by decide +kernel
theorem dX9_walkNow_24 : decode cX9_walkNow 24 = .ok (.ifCond .eq 7, 3) := by decide +kernel
theorem dX9_walkNow_27 : decode cX9_walkNow 27 = .ok (.iconst 3, 1) := by decide +kernel
theorem dX9_walkNow_28 : decode cX9_walkNow 28 = .ok (.goto 4, 3) := by decide +kernel
theorem dX9_walkNow_31 : decode cX9_walkNow 31 = .ok (.iconst 5, 1) := by decide +kernel
theorem dX9_walkNow_32 : decode cX9_walkNow 32 = .ok (.invokevirtual 103, 3) := by decide +kernel
theorem dX9_walkNow_35 : decode cX9_walkNow 35 = .ok (.ireturn, 1) := by decide +kernel
theorem dX9_walkNow_36 : decode cX9_walkNow 36 = .ok (.aload_n 0, 1) := by decide +kernel
theorem dX9_walkNow_37 : decode cX9_walkNow 37 = .ok (.iload_n 2, 1) := by decide +kernel
theorem dX9_walkNow_38 : decode cX9_walkNow 38 = .ok (.aload_n 0, 1) := by decide +kernel
theorem dX9_walkNow_39 : decode cX9_walkNow 39 = .ok (.iload_n 1, 1) := by decide +kernel
theorem dX9_walkNow_40 : decode cX9_walkNow 40 = .ok (.iconst 0, 1) := by decide +kernel
theorem dX9_walkNow_41 : decode cX9_walkNow 41 = .ok (.invokevirtual 109, 3) := by decide +kernel
theorem dX9_walkNow_44 : decode cX9_walkNow 44 = .ok (.invokevirtual 124, 3) := by decide +kernel
theorem dX9_walkNow_47 : decode cX9_walkNow 47 = .ok (.istore_n 3, 1) := by decide +kernel
theorem dX9_walkNow_48 : decode cX9_walkNow 48 = .ok (.aload_n 0, 1) := by decide +kernel
theorem dX9_walkNow_49 : decode cX9_walkNow 49 = .ok (.getfield 7, 3) := by decide +kernel
theorem dX9_walkNow_52 : decode cX9_walkNow 52 = .ok (.bipush 76, 2) := by decide +kernel
theorem dX9_walkNow_54 : decode cX9_walkNow 54 = .ok (.iconst 3, 1) := by decide +kernel
theorem dX9_walkNow_55 : decode cX9_walkNow 55 = .ok (.iload_n 1, 1) := by decide +kernel
theorem dX9_walkNow_56 : decode cX9_walkNow 56 = .ok (.imul, 1) := by decide +kernel
theorem dX9_walkNow_57 : decode cX9_walkNow 57 = .ok (.iadd, 1) := by decide +kernel
theorem dX9_walkNow_58 : decode cX9_walkNow 58 = .ok (.iconst 0, 1) := by decide +kernel
theorem dX9_walkNow_59 : decode cX9_walkNow 59 = .ok (.iadd, 1) := by decide +kernel
theorem dX9_walkNow_60 : decode cX9_walkNow 60 = .ok (.iload_n 3, 1) := by decide +kernel
theorem dX9_walkNow_61 : decode cX9_walkNow 61 = .ok (.iastore, 1) := by decide +kernel
theorem dX9_walkNow_62 : decode cX9_walkNow 62 = .ok (.aload_n 0, 1) := by decide +kernel
theorem dX9_walkNow_63 : decode cX9_walkNow 63 = .ok (.getfield 7, 3) := by decide +kernel
theorem dX9_walkNow_66 : decode cX9_walkNow 66 = .ok (.bipush 76, 2) := by decide +kernel
theorem dX9_walkNow_68 : decode cX9_walkNow 68 = .ok (.iconst 3, 1) := by decide +kernel
theorem dX9_walkNow_69 : decode cX9_walkNow 69 = .ok (.iload_n 1, 1) := by decide +kernel
theorem dX9_walkNow_70 : decode cX9_walkNow 70 = .ok (.imul, 1) := by decide +kernel
theorem dX9_walkNow_71 : decode cX9_walkNow 71 = .ok (.iadd, 1) := by decide +kernel
theorem dX9_walkNow_72 : decode cX9_walkNow 72 = .ok (.iconst 2, 1) := by decide +kernel
theorem dX9_walkNow_73 : decode cX9_walkNow 73 = .ok (.iadd, 1) := by decide +kernel
theorem dX9_walkNow_74 : decode cX9_walkNow 74 = .ok (.dup2, 1) := by decide +kernel
theorem dX9_walkNow_75 : decode cX9_walkNow 75 = .ok (.iaload, 1) := by decide +kernel
theorem dX9_walkNow_76 : decode cX9_walkNow 76 = .ok (.iconst 1, 1) := by decide +kernel
theorem dX9_walkNow_77 : decode cX9_walkNow 77 = .ok (.iadd, 1) := by decide +kernel
theorem dX9_walkNow_78 : decode cX9_walkNow 78 = .ok (.iastore, 1) := by decide +kernel
theorem dX9_walkNow_79 : decode cX9_walkNow 79 = .ok (.bipush 10, 2) := by decide +kernel
theorem dX9_walkNow_81 : decode cX9_walkNow 81 = .ok (.iload_n 3, 1) := by decide +kernel
theorem dX9_walkNow_82 : decode cX9_walkNow 82 = .ok (.iadd, 1) := by decide +kernel
theorem dX9_walkNow_83 : decode cX9_walkNow 83 = .ok (.ireturn, 1) := by decide +kernel
theorem dX9_open_0 : decode cX9_open 0 = .ok (.iload_n 1, 1) := by decide +kernel
theorem dX9_open_1 : decode cX9_open 1 = .ok (.invokestatic 127, 3) := by decide +kernel
theorem dX9_open_4 : decode cX9_open 4 = .ok (.ifCond .ne 5, 3) := by decide +kernel
theorem dX9_open_7 : decode cX9_open 7 = .ok (.iconst (-1), 1) := by decide +kernel
theorem dX9_open_8 : decode cX9_open 8 = .ok (.ireturn, 1) := by decide +kernel
theorem dX9_open_9 : decode cX9_open 9 = .ok (.aload_n 0, 1) := by decide +kernel
theorem dX9_open_10 : decode cX9_open 10 = .ok (.invokevirtual 71, 3) := by decide +kernel
theorem dX9_open_13 : decode cX9_open 13 = .ok (.aload_n 0, 1) := by decide +kernel
theorem dX9_open_14 : decode cX9_open 14 = .ok (.iload_n 1, 1) := by decide +kernel
theorem dX9_open_15 : decode cX9_open 15 = .ok (.invokevirtual 118, 3) := by decide +kernel
theorem dX9_open_18 : decode cX9_open 18 = .ok (.ireturn, 1) := by decide +kernel
theorem dX9_shut_0 : decode cX9_shut 0 = .ok (.iload_n 1, 1) := by decide +kernel
theorem dX9_shut_1 : decode cX9_shut 1 = .ok (.invokestatic 127, 3) := by decide +kernel
theorem dX9_shut_4 : decode cX9_shut 4 = .ok (.ifCond .ne 5, 3) := by decide +kernel
theorem dX9_shut_7 : decode cX9_shut 7 = .ok (.iconst (-1), 1) := by decide +kernel
theorem dX9_shut_8 : decode cX9_shut 8 = .ok (.ireturn, 1) := by decide +kernel
theorem dX9_shut_9 : decode cX9_shut 9 = .ok (.aload_n 0, 1) := by decide +kernel
theorem dX9_shut_10 : decode cX9_shut 10 = .ok (.invokevirtual 71, 3) := by decide +kernel
theorem dX9_shut_13 : decode cX9_shut 13 = .ok (.aload_n 0, 1) := by decide +kernel
theorem dX9_shut_14 : decode cX9_shut 14 = .ok (.iload_n 1, 1) := by decide +kernel
theorem dX9_shut_15 : decode cX9_shut 15 = .ok (.invokevirtual 121, 3) := by decide +kernel
theorem dX9_shut_18 : decode cX9_shut 18 = .ok (.ireturn, 1) := by decide +kernel
theorem dX9_guestOpens_0 : decode cX9_guestOpens 0 = .ok (.iload_n 1, 1) := by decide +kernel
theorem dX9_guestOpens_1 : decode cX9_guestOpens 1 = .ok (.invokestatic 130, 3) := by decide +kernel
theorem dX9_guestOpens_4 : decode cX9_guestOpens 4 = .ok (.ifCond .eq 10, 3) := by decide +kernel
theorem dX9_guestOpens_7 : decode cX9_guestOpens 7 = .ok (.iload_n 2, 1) := by decide +kernel
theorem dX9_guestOpens_8 : decode cX9_guestOpens 8 = .ok (.invokestatic 127, 3) := by decide +kernel
theorem dX9_guestOpens_11 : decode cX9_guestOpens 11 = .ok (.ifCond .ne 5, 3) := by decide +kernel
theorem dX9_guestOpens_14 : decode cX9_guestOpens 14 = .ok (.iconst (-1), 1) := by decide +kernel
theorem dX9_guestOpens_15 : decode cX9_guestOpens 15 = .ok (.ireturn, 1) := by decide +kernel
theorem dX9_guestOpens_16 : decode cX9_guestOpens 16 = .ok (.aload_n 0, 1) := by decide +kernel
theorem dX9_guestOpens_17 : decode cX9_guestOpens 17 = .ok (.invokevirtual 71, 3) := by decide +kernel
theorem dX9_guestOpens_20 : decode cX9_guestOpens 20 = .ok (.aload_n 0, 1) := by decide +kernel
theorem dX9_guestOpens_21 : decode cX9_guestOpens 21 = .ok (.iload_n 1, 1) := by decide +kernel
theorem dX9_guestOpens_22 : decode cX9_guestOpens 22 = .ok (.iload_n 2, 1) := by decide +kernel
theorem dX9_guestOpens_23 : decode cX9_guestOpens 23 = .ok (.invokevirtual 133, 3) := by decide +kernel
theorem dX9_guestOpens_26 : decode cX9_guestOpens 26 = .ok (.ireturn, 1) := by decide +kernel
theorem dX9_guestShuts_0 : decode cX9_guestShuts 0 = .ok (.iload_n 1, 1) := by decide +kernel
theorem dX9_guestShuts_1 : decode cX9_guestShuts 1 = .ok (.invokestatic 130, 3) := by decide +kernel
theorem dX9_guestShuts_4 : decode cX9_guestShuts 4 = .ok (.ifCond .eq 10, 3) := by decide +kernel
theorem dX9_guestShuts_7 : decode cX9_guestShuts 7 = .ok (.iload_n 2, 1) := by decide +kernel
theorem dX9_guestShuts_8 : decode cX9_guestShuts 8 = .ok (.invokestatic 127, 3) := by decide +kernel
theorem dX9_guestShuts_11 : decode cX9_guestShuts 11 = .ok (.ifCond .ne 5, 3) := by decide +kernel
theorem dX9_guestShuts_14 : decode cX9_guestShuts 14 = .ok (.iconst (-1), 1) := by decide +kernel
theorem dX9_guestShuts_15 : decode cX9_guestShuts 15 = .ok (.ireturn, 1) := by decide +kernel
theorem dX9_guestShuts_16 : decode cX9_guestShuts 16 = .ok (.aload_n 0, 1) := by decide +kernel
theorem dX9_guestShuts_17 : decode cX9_guestShuts 17 = .ok (.invokevirtual 71, 3) := by decide +kernel
theorem dX9_guestShuts_20 : decode cX9_guestShuts 20 = .ok (.aload_n 0, 1) := by decide +kernel
theorem dX9_guestShuts_21 : decode cX9_guestShuts 21 = .ok (.iload_n 1, 1) := by decide +kernel
theorem dX9_guestShuts_22 : decode cX9_guestShuts 22 = .ok (.iload_n 2, 1) := by decide +kernel
theorem dX9_guestShuts_23 : decode cX9_guestShuts 23 = .ok (.invokevirtual 136, 3) := by decide +kernel
theorem dX9_guestShuts_26 : decode cX9_guestShuts 26 = .ok (.ireturn, 1) := by decide +kernel
theorem dX9_walk_0 : decode cX9_walk 0 = .ok (.iload_n 1, 1) := by decide +kernel
theorem dX9_walk_1 : decode cX9_walk 1 = .ok (.invokestatic 130, 3) := by decide +kernel
theorem dX9_walk_4 : decode cX9_walk 4 = .ok (.ifCond .eq 10, 3) := by decide +kernel
theorem dX9_walk_7 : decode cX9_walk 7 = .ok (.iload_n 2, 1) := by decide +kernel
theorem dX9_walk_8 : decode cX9_walk 8 = .ok (.invokestatic 127, 3) := by decide +kernel
theorem dX9_walk_11 : decode cX9_walk 11 = .ok (.ifCond .ne 5, 3) := by decide +kernel
theorem dX9_walk_14 : decode cX9_walk 14 = .ok (.iconst (-1), 1) := by decide +kernel
theorem dX9_walk_15 : decode cX9_walk 15 = .ok (.ireturn, 1) := by decide +kernel
theorem dX9_walk_16 : decode cX9_walk 16 = .ok (.aload_n 0, 1) := by decide +kernel
theorem dX9_walk_17 : decode cX9_walk 17 = .ok (.invokevirtual 71, 3) := by decide +kernel
theorem dX9_walk_20 : decode cX9_walk 20 = .ok (.aload_n 0, 1) := by decide +kernel
theorem dX9_walk_21 : decode cX9_walk 21 = .ok (.iload_n 1, 1) := by decide +kernel
theorem dX9_walk_22 : decode cX9_walk 22 = .ok (.iload_n 2, 1) := by decide +kernel
theorem dX9_walk_23 : decode cX9_walk 23 = .ok (.invokevirtual 139, 3) := by decide +kernel
theorem dX9_walk_26 : decode cX9_walk 26 = .ok (.ireturn, 1) := by decide +kernel
theorem dX9_cord_0 : decode cX9_cord 0 = .ok (.iload_n 1, 1) := by decide +kernel
theorem dX9_cord_1 : decode cX9_cord 1 = .ok (.invokestatic 127, 3) := by decide +kernel
theorem dX9_cord_4 : decode cX9_cord 4 = .ok (.ifCond .eq 18, 3) := by decide +kernel
theorem dX9_cord_7 : decode cX9_cord 7 = .ok (.iload_n 3, 1) := by decide +kernel
theorem dX9_cord_8 : decode cX9_cord 8 = .ok (.iconst 0, 1) := by decide +kernel
theorem dX9_cord_9 : decode cX9_cord 9 = .ok (.bipush 10, 2) := by decide +kernel
theorem dX9_cord_11 : decode cX9_cord 11 = .ok (.invokestatic 48, 3) := by decide +kernel
theorem dX9_cord_14 : decode cX9_cord 14 = .ok (.ifCond .eq 8, 3) := by decide +kernel
theorem dX9_cord_17 : decode cX9_cord 17 = .ok (.iload_n 3, 1) := by decide +kernel
theorem dX9_cord_18 : decode cX9_cord 18 = .ok (.iload_n 1, 1) := by decide +kernel
theorem dX9_cord_19 : decode cX9_cord 19 = .ok (.if_icmp .ne 5, 3) := by decide +kernel
theorem dX9_cord_22 : decode cX9_cord 22 = .ok (.iconst (-1), 1) := by decide +kernel
theorem dX9_cord_23 : decode cX9_cord 23 = .ok (.ireturn, 1) := by decide +kernel
theorem dX9_cord_24 : decode cX9_cord 24 = .ok (.iload_n 3, 1) := by decide +kernel
theorem dX9_cord_25 : decode cX9_cord 25 = .ok (.bipush 10, 2) := by decide +kernel
theorem dX9_cord_27 : decode cX9_cord 27 = .ok (.if_icmp .ge 23, 3) := by decide +kernel
theorem dX9_cord_30 : decode cX9_cord 30 = .ok (.aload_n 0, 1) := by decide +kernel
theorem dX9_cord_31 : decode cX9_cord 31 = .ok (.iload_n 1, 1) := by decide +kernel
theorem dX9_cord_32 : decode cX9_cord 32 = .ok (.iload_n 2, 1) := by decide +kernel
theorem dX9_cord_33 : decode cX9_cord 33 = .ok (.ifCond .eq 7, 3) := by decide +kernel
theorem dX9_cord_36 : decode cX9_cord 36 = .ok (.iconst 3, 1) := by decide +kernel
theorem dX9_cord_37 : decode cX9_cord 37 = .ok (.goto 4, 3) := by decide +kernel
theorem dX9_cord_40 : decode cX9_cord 40 = .ok (.iconst 4, 1) := by decide +kernel
theorem dX9_cord_41 : decode cX9_cord 41 = .ok (.invokevirtual 52, 3) := by decide +kernel
theorem dX9_cord_44 : decode cX9_cord 44 = .ok (.iload_n 3, 1) := by decide +kernel
theorem dX9_cord_45 : decode cX9_cord 45 = .ok (.if_icmp .ne 5, 3) := by decide +kernel
theorem dX9_cord_48 : decode cX9_cord 48 = .ok (.iconst (-1), 1) := by decide +kernel
theorem dX9_cord_49 : decode cX9_cord 49 = .ok (.ireturn, 1) := by decide +kernel
theorem dX9_cord_50 : decode cX9_cord 50 = .ok (.aload_n 0, 1) := by decide +kernel
theorem dX9_cord_51 : decode cX9_cord 51 = .ok (.invokevirtual 71, 3) := by decide +kernel
theorem dX9_cord_54 : decode cX9_cord 54 = .ok (.iload_n 3, 1) := by decide +kernel
theorem dX9_cord_55 : decode cX9_cord 55 = .ok (.bipush 10, 2) := by decide +kernel
theorem dX9_cord_57 : decode cX9_cord 57 = .ok (.if_icmp .ge 25, 3) := by decide +kernel
theorem dX9_cord_60 : decode cX9_cord 60 = .ok (.aload_n 0, 1) := by decide +kernel
theorem dX9_cord_61 : decode cX9_cord 61 = .ok (.iload_n 1, 1) := by decide +kernel
theorem dX9_cord_62 : decode cX9_cord 62 = .ok (.invokevirtual 78, 3) := by decide +kernel
theorem dX9_cord_65 : decode cX9_cord 65 = .ok (.ifCond .eq 17, 3) := by decide +kernel
theorem dX9_cord_68 : decode cX9_cord 68 = .ok (.aload_n 0, 1) := by decide +kernel
theorem dX9_cord_69 : decode cX9_cord 69 = .ok (.iload_n 3, 1) := by decide +kernel
theorem dX9_cord_70 : decode cX9_cord 70 = .ok (.invokevirtual 78, 3) := by decide +kernel
theorem dX9_cord_73 : decode cX9_cord 73 = .ok (.ifCond .eq 9, 3) := by decide +kernel
theorem dX9_cord_76 : decode cX9_cord 76 = .ok (.aload_n 0, 1) := by decide +kernel
theorem dX9_cord_77 : decode cX9_cord 77 = .ok (.iconst 4, 1) := by decide +kernel
theorem dX9_cord_78 : decode cX9_cord 78 = .ok (.invokevirtual 103, 3) := by decide +kernel
theorem dX9_cord_81 : decode cX9_cord 81 = .ok (.ireturn, 1) := by decide +kernel
theorem dX9_cord_82 : decode cX9_cord 82 = .ok (.aload_n 0, 1) := by decide +kernel
theorem dX9_cord_83 : decode cX9_cord 83 = .ok (.iload_n 1, 1) := by decide +kernel
theorem dX9_cord_84 : decode cX9_cord 84 = .ok (.iload_n 2, 1) := by decide +kernel
theorem dX9_cord_85 : decode cX9_cord 85 = .ok (.ifCond .eq 7, 3) := by decide +kernel
theorem dX9_cord_88 : decode cX9_cord 88 = .ok (.iconst 4, 1) := by decide +kernel
theorem dX9_cord_89 : decode cX9_cord 89 = .ok (.goto 4, 3) := by decide +kernel
theorem dX9_cord_92 : decode cX9_cord 92 = .ok (.iconst 3, 1) := by decide +kernel
theorem dX9_cord_93 : decode cX9_cord 93 = .ok (.iload_n 3, 1) := by decide +kernel
theorem dX9_cord_94 : decode cX9_cord 94 = .ok (.bipush 10, 2) := by decide +kernel
theorem dX9_cord_96 : decode cX9_cord 96 = .ok (.if_icmp .ne 8, 3) := by decide +kernel
theorem dX9_cord_99 : decode cX9_cord 99 = .ok (.bipush (-4), 2) := by decide +kernel
theorem dX9_cord_101 : decode cX9_cord 101 = .ok (.goto 4, 3) := by decide +kernel
theorem dX9_cord_104 : decode cX9_cord 104 = .ok (.iload_n 3, 1) := by decide +kernel
theorem dX9_cord_105 : decode cX9_cord 105 = .ok (.invokevirtual 44, 3) := by decide +kernel
theorem dX9_cord_108 : decode cX9_cord 108 = .ok (.bipush 10, 2) := by decide +kernel
theorem dX9_cord_110 : decode cX9_cord 110 = .ok (.ireturn, 1) := by decide +kernel
theorem dX9_lesserHall_0 : decode cX9_lesserHall 0 = .ok (.aload_n 0, 1) := by decide +kernel
theorem dX9_lesserHall_1 : decode cX9_lesserHall 1 = .ok (.iload_n 1, 1) := by decide +kernel
theorem dX9_lesserHall_2 : decode cX9_lesserHall 2 = .ok (.iconst 1, 1) := by decide +kernel
theorem dX9_lesserHall_3 : decode cX9_lesserHall 3 = .ok (.invokevirtual 52, 3) := by decide +kernel
theorem dX9_lesserHall_6 : decode cX9_lesserHall 6 = .ok (.aload_n 0, 1) := by decide +kernel
theorem dX9_lesserHall_7 : decode cX9_lesserHall 7 = .ok (.iload_n 1, 1) := by decide +kernel
theorem dX9_lesserHall_8 : decode cX9_lesserHall 8 = .ok (.iconst 2, 1) := by decide +kernel
theorem dX9_lesserHall_9 : decode cX9_lesserHall 9 = .ok (.invokevirtual 52, 3) := by decide +kernel
theorem dX9_lesserHall_12 : decode cX9_lesserHall 12 = .ok (.if_icmp .ge 12, 3) := by decide +kernel
theorem dX9_lesserHall_15 : decode cX9_lesserHall 15 = .ok (.aload_n 0, 1) := by decide +kernel
theorem dX9_lesserHall_16 : decode cX9_lesserHall 16 = .ok (.iload_n 1, 1) := by decide +kernel
theorem dX9_lesserHall_17 : decode cX9_lesserHall 17 = .ok (.iconst 1, 1) := by decide +kernel
theorem dX9_lesserHall_18 : decode cX9_lesserHall 18 = .ok (.invokevirtual 52, 3) := by decide +kernel
theorem dX9_lesserHall_21 : decode cX9_lesserHall 21 = .ok (.goto 9, 3) := by decide +kernel
theorem dX9_lesserHall_24 : decode cX9_lesserHall 24 = .ok (.aload_n 0, 1) := by decide +kernel
theorem dX9_lesserHall_25 : decode cX9_lesserHall 25 = .ok (.iload_n 1, 1) := by decide +kernel
theorem dX9_lesserHall_26 : decode cX9_lesserHall 26 = .ok (.iconst 2, 1) := by decide +kernel
theorem dX9_lesserHall_27 : decode cX9_lesserHall 27 = .ok (.invokevirtual 52, 3) := by decide +kernel
theorem dX9_lesserHall_30 : decode cX9_lesserHall 30 = .ok (.ireturn, 1) := by decide +kernel
theorem dX9_greaterHall_0 : decode cX9_greaterHall 0 = .ok (.aload_n 0, 1) := by decide +kernel
theorem dX9_greaterHall_1 : decode cX9_greaterHall 1 = .ok (.iload_n 1, 1) := by decide +kernel
theorem dX9_greaterHall_2 : decode cX9_greaterHall 2 = .ok (.iconst 1, 1) := by decide +kernel
theorem dX9_greaterHall_3 : decode cX9_greaterHall 3 = .ok (.invokevirtual 52, 3) := by decide +kernel
theorem dX9_greaterHall_6 : decode cX9_greaterHall 6 = .ok (.aload_n 0, 1) := by decide +kernel
theorem dX9_greaterHall_7 : decode cX9_greaterHall 7 = .ok (.iload_n 1, 1) := by decide +kernel
theorem dX9_greaterHall_8 : decode cX9_greaterHall 8 = .ok (.iconst 2, 1) := by decide +kernel
theorem dX9_greaterHall_9 : decode cX9_greaterHall 9 = .ok (.invokevirtual 52, 3) := by decide +kernel
theorem dX9_greaterHall_12 : decode cX9_greaterHall 12 = .ok (.iadd, 1) := by decide +kernel
theorem dX9_greaterHall_13 : decode cX9_greaterHall 13 = .ok (.aload_n 0, 1) := by decide +kernel
theorem dX9_greaterHall_14 : decode cX9_greaterHall 14 = .ok (.iload_n 1, 1) := by decide +kernel
theorem dX9_greaterHall_15 : decode cX9_greaterHall 15 = .ok (.invokevirtual 142, 3) := by decide +kernel
theorem dX9_greaterHall_18 : decode cX9_greaterHall 18 = .ok (.isub, 1) := by decide +kernel
theorem dX9_greaterHall_19 : decode cX9_greaterHall 19 = .ok (.ireturn, 1) := by decide +kernel
theorem dX9_join_0 : decode cX9_join 0 = .ok (.iload_n 1, 1) := by decide +kernel
theorem dX9_join_1 : decode cX9_join 1 = .ok (.invokestatic 127, 3) := by decide +kernel
theorem dX9_join_4 : decode cX9_join 4 = .ok (.ifCond .eq 22, 3) := by decide +kernel
theorem dX9_join_7 : decode cX9_join 7 = .ok (.iload_n 2, 1) := by decide +kernel
theorem dX9_join_8 : decode cX9_join 8 = .ok (.invokestatic 145, 3) := by decide +kernel
theorem dX9_join_11 : decode cX9_join 11 = .ok (.ifCond .eq 15, 3) := by decide +kernel
theorem dX9_join_14 : decode cX9_join 14 = .ok (.iload_n 3, 1) := by decide +kernel
theorem dX9_join_15 : decode cX9_join 15 = .ok (.invokestatic 145, 3) := by decide +kernel
theorem dX9_join_18 : decode cX9_join 18 = .ok (.ifCond .eq 8, 3) := by decide +kernel
theorem dX9_join_21 : decode cX9_join 21 = .ok (.iload_n 2, 1) := by decide +kernel
theorem dX9_join_22 : decode cX9_join 22 = .ok (.iload_n 3, 1) := by decide +kernel
theorem dX9_join_23 : decode cX9_join 23 = .ok (.if_icmp .ne 5, 3) := by decide +kernel
theorem dX9_join_26 : decode cX9_join 26 = .ok (.iconst (-1), 1) := by decide +kernel
theorem dX9_join_27 : decode cX9_join 27 = .ok (.ireturn, 1) := by decide +kernel
theorem dX9_join_28 : decode cX9_join 28 = .ok (.aload_n 0, 1) := by decide +kernel
theorem dX9_join_29 : decode cX9_join 29 = .ok (.iload_n 1, 1) := by decide +kernel
theorem dX9_join_30 : decode cX9_join 30 = .ok (.invokevirtual 78, 3) := by decide +kernel
theorem dX9_join_33 : decode cX9_join 33 = .ok (.ifCond .eq 6, 3) := by decide +kernel
theorem dX9_join_36 : decode cX9_join 36 = .ok (.bipush (-2), 2) := by decide +kernel
theorem dX9_join_38 : decode cX9_join 38 = .ok (.ireturn, 1) := by decide +kernel
theorem dX9_join_39 : decode cX9_join 39 = .ok (.aload_n 0, 1) := by decide +kernel
theorem dX9_join_40 : decode cX9_join 40 = .ok (.invokevirtual 71, 3) := by decide +kernel
theorem dX9_join_43 : decode cX9_join 43 = .ok (.bipush 10, 2) := by decide +kernel
theorem dX9_join_45 : decode cX9_join 45 = .ok (.aload_n 0, 1) := by decide +kernel
theorem dX9_join_46 : decode cX9_join 46 = .ok (.iload_n 1, 1) := by decide +kernel
theorem dX9_join_47 : decode cX9_join 47 = .ok (.invokevirtual 142, 3) := by decide +kernel
theorem dX9_join_50 : decode cX9_join 50 = .ok (.imul, 1) := by decide +kernel
theorem dX9_join_51 : decode cX9_join 51 = .ok (.aload_n 0, 1) := by decide +kernel
theorem dX9_join_52 : decode cX9_join 52 = .ok (.iload_n 1, 1) := by decide +kernel
theorem dX9_join_53 : decode cX9_join 53 = .ok (.invokevirtual 148, 3) := by decide +kernel
theorem dX9_join_56 : decode cX9_join 56 = .ok (.iadd, 1) := by decide +kernel
theorem dX9_join_57 : decode cX9_join 57 = .ok (.istore 4, 2) := by decide +kernel
theorem dX9_join_59 : decode cX9_join 59 = .ok (.aload_n 0, 1) := by decide +kernel
theorem dX9_join_60 : decode cX9_join 60 = .ok (.iload_n 1, 1) := by decide +kernel
theorem dX9_join_61 : decode cX9_join 61 = .ok (.iconst 1, 1) := by decide +kernel
theorem dX9_join_62 : decode cX9_join 62 = .ok (.iload_n 2, 1) := by decide +kernel
theorem dX9_join_63 : decode cX9_join 63 = .ok (.invokevirtual 44, 3) := by decide +kernel
theorem dX9_join_66 : decode cX9_join 66 = .ok (.aload_n 0, 1) := by decide +kernel
theorem dX9_join_67 : decode cX9_join 67 = .ok (.iload_n 1, 1) := by decide +kernel
theorem dX9_join_68 : decode cX9_join 68 = .ok (.iconst 2, 1) := by decide +kernel
theorem dX9_join_69 : decode cX9_join 69 = .ok (.iload_n 3, 1) := by decide +kernel
theorem dX9_join_70 : decode cX9_join 70 = .ok (.invokevirtual 44, 3) := by decide +kernel
theorem dX9_join_73 : decode cX9_join 73 = .ok (.iload 4, 2) := by decide +kernel
theorem dX9_join_75 : decode cX9_join 75 = .ok (.ireturn, 1) := by decide +kernel
theorem dX9_keys_0 : decode cX9_keys 0 = .ok (.iload_n 1, 1) := by decide +kernel
theorem dX9_keys_1 : decode cX9_keys 1 = .ok (.invokestatic 130, 3) := by decide +kernel
theorem dX9_keys_4 : decode cX9_keys 4 = .ok (.ifCond .eq 14, 3) := by decide +kernel
theorem dX9_keys_7 : decode cX9_keys 7 = .ok (.iload_n 2, 1) := by decide +kernel
theorem dX9_keys_8 : decode cX9_keys 8 = .ok (.iconst 0, 1) := by decide +kernel
theorem dX9_keys_9 : decode cX9_keys 9 = .ok (.sipush 1023, 3) := by decide +kernel
theorem dX9_keys_12 : decode cX9_keys 12 = .ok (.invokestatic 48, 3) := by decide +kernel
theorem dX9_keys_15 : decode cX9_keys 15 = .ok (.ifCond .ne 5, 3) := by decide +kernel
theorem dX9_keys_18 : decode cX9_keys 18 = .ok (.iconst (-1), 1) := by decide +kernel
theorem dX9_keys_19 : decode cX9_keys 19 = .ok (.ireturn, 1) := by decide +kernel
theorem dX9_keys_20 : decode cX9_keys 20 = .ok (.aload_n 0, 1) := by decide +kernel
theorem dX9_keys_21 : decode cX9_keys 21 = .ok (.invokevirtual 71, 3) := by decide +kernel
theorem dX9_keys_24 : decode cX9_keys 24 = .ok (.aload_n 0, 1) := by decide +kernel
theorem dX9_keys_25 : decode cX9_keys 25 = .ok (.iload_n 1, 1) := by decide +kernel
theorem dX9_keys_26 : decode cX9_keys 26 = .ok (.iconst 1, 1) := by decide +kernel
theorem dX9_keys_27 : decode cX9_keys 27 = .ok (.invokevirtual 109, 3) := by decide +kernel
theorem dX9_keys_30 : decode cX9_keys 30 = .ok (.istore_n 3, 1) := by decide +kernel
theorem dX9_keys_31 : decode cX9_keys 31 = .ok (.aload_n 0, 1) := by decide +kernel
theorem dX9_keys_32 : decode cX9_keys 32 = .ok (.getfield 7, 3) := by decide +kernel
theorem dX9_keys_35 : decode cX9_keys 35 = .ok (.bipush 76, 2) := by decide +kernel
theorem dX9_keys_37 : decode cX9_keys 37 = .ok (.iconst 3, 1) := by decide +kernel
theorem dX9_keys_38 : decode cX9_keys 38 = .ok (.iload_n 1, 1) := by decide +kernel
theorem dX9_keys_39 : decode cX9_keys 39 = .ok (.imul, 1) := by decide +kernel
theorem dX9_keys_40 : decode cX9_keys 40 = .ok (.iadd, 1) := by decide +kernel
theorem dX9_keys_41 : decode cX9_keys 41 = .ok (.iconst 1, 1) := by decide +kernel
theorem dX9_keys_42 : decode cX9_keys 42 = .ok (.iadd, 1) := by decide +kernel
theorem dX9_keys_43 : decode cX9_keys 43 = .ok (.iload_n 2, 1) := by decide +kernel
theorem dX9_keys_44 : decode cX9_keys 44 = .ok (.iastore, 1) := by decide +kernel
theorem dX9_keys_45 : decode cX9_keys 45 = .ok (.iload_n 3, 1) := by decide +kernel
theorem dX9_keys_46 : decode cX9_keys 46 = .ok (.ireturn, 1) := by decide +kernel
theorem dX9_draft_0 : decode cX9_draft 0 = .ok (.iload_n 1, 1) := by decide +kernel
theorem dX9_draft_1 : decode cX9_draft 1 = .ok (.iconst 1, 1) := by decide +kernel
theorem dX9_draft_2 : decode cX9_draft 2 = .ok (.bipush 10, 2) := by decide +kernel
theorem dX9_draft_4 : decode cX9_draft 4 = .ok (.invokestatic 48, 3) := by decide +kernel
theorem dX9_draft_7 : decode cX9_draft 7 = .ok (.ifCond .ne 5, 3) := by decide +kernel
theorem dX9_draft_10 : decode cX9_draft 10 = .ok (.iconst (-1), 1) := by decide +kernel
theorem dX9_draft_11 : decode cX9_draft 11 = .ok (.ireturn, 1) := by decide +kernel
theorem dX9_draft_12 : decode cX9_draft 12 = .ok (.aload_n 0, 1) := by decide +kernel
theorem dX9_draft_13 : decode cX9_draft 13 = .ok (.invokevirtual 71, 3) := by decide +kernel
theorem dX9_draft_16 : decode cX9_draft 16 = .ok (.aload_n 0, 1) := by decide +kernel
theorem dX9_draft_17 : decode cX9_draft 17 = .ok (.getfield 7, 3) := by decide +kernel
theorem dX9_draft_20 : decode cX9_draft 20 = .ok (.iconst 0, 1) := by decide +kernel
theorem dX9_draft_21 : decode cX9_draft 21 = .ok (.iaload, 1) := by decide +kernel
theorem dX9_draft_22 : decode cX9_draft 22 = .ok (.istore_n 2, 1) := by decide +kernel
theorem dX9_draft_23 : decode cX9_draft 23 = .ok (.aload_n 0, 1) := by decide +kernel
theorem dX9_draft_24 : decode cX9_draft 24 = .ok (.getfield 7, 3) := by decide +kernel
theorem dX9_draft_27 : decode cX9_draft 27 = .ok (.iconst 0, 1) := by decide +kernel
theorem dX9_draft_28 : decode cX9_draft 28 = .ok (.iload_n 1, 1) := by decide +kernel
theorem dX9_draft_29 : decode cX9_draft 29 = .ok (.iastore, 1) := by decide +kernel
theorem dX9_draft_30 : decode cX9_draft 30 = .ok (.iload_n 2, 1) := by decide +kernel
theorem dX9_draft_31 : decode cX9_draft 31 = .ok (.ireturn, 1) := by decide +kernel
theorem dX9_append_0 : decode cX9_append 0 = .ok (.iload_n 1, 1) := by decide +kernel
theorem dX9_append_1 : decode cX9_append 1 = .ok (.bipush 33, 2) := by decide +kernel
theorem dX9_append_3 : decode cX9_append 3 = .ok (.bipush 126, 2) := by decide +kernel
theorem dX9_append_5 : decode cX9_append 5 = .ok (.invokestatic 48, 3) := by decide +kernel
theorem dX9_append_8 : decode cX9_append 8 = .ok (.ifCond .ne 5, 3) := by decide +kernel
theorem dX9_append_11 : decode cX9_append 11 = .ok (.iconst (-1), 1) := by decide +kernel
theorem dX9_append_12 : decode cX9_append 12 = .ok (.ireturn, 1) := by decide +kernel
theorem dX9_append_13 : decode cX9_append 13 = .ok (.aload_n 0, 1) := by decide +kernel
theorem dX9_append_14 : decode cX9_append 14 = .ok (.getfield 151, 3) := by decide +kernel
theorem dX9_append_17 : decode cX9_append 17 = .ok (.bipush 60, 2) := by decide +kernel
theorem dX9_append_19 : decode cX9_append 19 = .ok (.if_icmp .ne 6, 3) := by decide +kernel
theorem dX9_append_22 : decode cX9_append 22 = .ok (.bipush (-3), 2) := by decide +kernel
theorem dX9_append_24 : decode cX9_append 24 = .ok (.ireturn, 1) := by decide +kernel
theorem dX9_append_25 : decode cX9_append 25 = .ok (.aload_n 0, 1) := by decide +kernel
theorem dX9_append_26 : decode cX9_append 26 = .ok (.getfield 22, 3) := by decide +kernel
theorem dX9_append_29 : decode cX9_append 29 = .ok (.aload_n 0, 1) := by decide +kernel
theorem dX9_append_30 : decode cX9_append 30 = .ok (.getfield 151, 3) := by decide +kernel
theorem dX9_append_33 : decode cX9_append 33 = .ok (.iload_n 1, 1) := by decide +kernel
theorem dX9_append_34 : decode cX9_append 34 = .ok (.iastore, 1) := by decide +kernel
theorem dX9_append_35 : decode cX9_append 35 = .ok (.aload_n 0, 1) := by decide +kernel
theorem dX9_append_36 : decode cX9_append 36 = .ok (.dup, 1) := by decide +kernel
theorem dX9_append_37 : decode cX9_append 37 = .ok (.getfield 151, 3) := by decide +kernel
theorem dX9_append_40 : decode cX9_append 40 = .ok (.iconst 1, 1) := by decide +kernel
theorem dX9_append_41 : decode cX9_append 41 = .ok (.iadd, 1) := by decide +kernel
theorem dX9_append_42 : decode cX9_append 42 = .ok (.putfield 151, 3) := by decide +kernel
theorem dX9_append_45 : decode cX9_append 45 = .ok (.aload_n 0, 1) := by decide +kernel
theorem dX9_append_46 : decode cX9_append 46 = .ok (.getfield 151, 3) := by decide +kernel
theorem dX9_append_49 : decode cX9_append 49 = .ok (.ireturn, 1) := by decide +kernel
theorem dX9_clear_0 : decode cX9_clear 0 = .ok (.aload_n 0, 1) := by decide +kernel
theorem dX9_clear_1 : decode cX9_clear 1 = .ok (.getfield 151, 3) := by decide +kernel
theorem dX9_clear_4 : decode cX9_clear 4 = .ok (.istore_n 1, 1) := by decide +kernel
theorem dX9_clear_5 : decode cX9_clear 5 = .ok (.aload_n 0, 1) := by decide +kernel
theorem dX9_clear_6 : decode cX9_clear 6 = .ok (.iconst 0, 1) := by decide +kernel
theorem dX9_clear_7 : decode cX9_clear 7 = .ok (.putfield 151, 3) := by decide +kernel
theorem dX9_clear_10 : decode cX9_clear 10 = .ok (.iload_n 1, 1) := by decide +kernel
theorem dX9_clear_11 : decode cX9_clear 11 = .ok (.ireturn, 1) := by decide +kernel
theorem dX9_sees_0 : decode cX9_sees 0 = .ok (.aload_n 0, 1) := by decide +kernel
theorem dX9_sees_1 : decode cX9_sees 1 = .ok (.getfield 154, 3) := by decide +kernel
theorem dX9_sees_4 : decode cX9_sees 4 = .ok (.aload_n 0, 1) := by decide +kernel
theorem dX9_sees_5 : decode cX9_sees 5 = .ok (.getfield 151, 3) := by decide +kernel
theorem dX9_sees_8 : decode cX9_sees 8 = .ok (.if_icmp .ge 24, 3) := by decide +kernel
theorem dX9_sees_11 : decode cX9_sees 11 = .ok (.aload_n 0, 1) := by decide +kernel
theorem dX9_sees_12 : decode cX9_sees 12 = .ok (.getfield 22, 3) := by decide +kernel
theorem dX9_sees_15 : decode cX9_sees 15 = .ok (.aload_n 0, 1) := by decide +kernel
theorem dX9_sees_16 : decode cX9_sees 16 = .ok (.getfield 154, 3) := by decide +kernel
theorem dX9_sees_19 : decode cX9_sees 19 = .ok (.iaload, 1) := by decide +kernel
theorem dX9_sees_20 : decode cX9_sees 20 = .ok (.iload_n 1, 1) := by decide +kernel
theorem dX9_sees_21 : decode cX9_sees 21 = .ok (.iload_n 2, 1) := by decide +kernel
theorem dX9_sees_22 : decode cX9_sees 22 = .ok (.invokestatic 48, 3) := by decide +kernel
theorem dX9_sees_25 : decode cX9_sees 25 = .ok (.ifCond .eq 7, 3) := by decide +kernel
theorem dX9_sees_28 : decode cX9_sees 28 = .ok (.iconst 1, 1) := by decide +kernel
theorem dX9_sees_29 : decode cX9_sees 29 = .ok (.goto 4, 3) := by decide +kernel
theorem dX9_sees_32 : decode cX9_sees 32 = .ok (.iconst 0, 1) := by decide +kernel
theorem dX9_sees_33 : decode cX9_sees 33 = .ok (.ireturn, 1) := by decide +kernel
theorem dX9_takes_0 : decode cX9_takes 0 = .ok (.aload_n 0, 1) := by decide +kernel
theorem dX9_takes_1 : decode cX9_takes 1 = .ok (.iload_n 1, 1) := by decide +kernel
theorem dX9_takes_2 : decode cX9_takes 2 = .ok (.iload_n 1, 1) := by decide +kernel
theorem dX9_takes_3 : decode cX9_takes 3 = .ok (.invokevirtual 157, 3) := by decide +kernel
theorem dX9_takes_6 : decode cX9_takes 6 = .ok (.istore_n 2, 1) := by decide +kernel
theorem dX9_takes_7 : decode cX9_takes 7 = .ok (.aload_n 0, 1) := by decide +kernel
theorem dX9_takes_8 : decode cX9_takes 8 = .ok (.dup, 1) := by decide +kernel
theorem dX9_takes_9 : decode cX9_takes 9 = .ok (.getfield 154, 3) := by decide +kernel
theorem dX9_takes_12 : decode cX9_takes 12 = .ok (.iload_n 2, 1) := by decide +kernel
theorem dX9_takes_13 : decode cX9_takes 13 = .ok (.ifCond .eq 7, 3) := by decide +kernel
theorem dX9_takes_16 : decode cX9_takes 16 = .ok (.iconst 1, 1) := by decide +kernel
theorem dX9_takes_17 : decode cX9_takes 17 = .ok (.goto 4, 3) := by decide +kernel
theorem dX9_takes_20 : decode cX9_takes 20 = .ok (.iconst 0, 1) := by decide +kernel
theorem dX9_takes_21 : decode cX9_takes 21 = .ok (.iadd, 1) := by decide +kernel
theorem dX9_takes_22 : decode cX9_takes 22 = .ok (.putfield 154, 3) := by decide +kernel
theorem dX9_takes_25 : decode cX9_takes 25 = .ok (.iload_n 2, 1) := by decide +kernel
theorem dX9_takes_26 : decode cX9_takes 26 = .ok (.ireturn, 1) := by decide +kernel
theorem dX9_takesOne_0 : decode cX9_takesOne 0 = .ok (.aload_n 0, 1) := by decide +kernel
theorem dX9_takesOne_1 : decode cX9_takesOne 1 = .ok (.iload_n 1, 1) := by decide +kernel
theorem dX9_takesOne_2 : decode cX9_takesOne 2 = .ok (.iload_n 2, 1) := by decide +kernel
theorem dX9_takesOne_3 : decode cX9_takesOne 3 = .ok (.invokevirtual 157, 3) := by decide +kernel
theorem dX9_takesOne_6 : decode cX9_takesOne 6 = .ok (.ifCond .ne 6, 3) := by decide +kernel
theorem dX9_takesOne_9 : decode cX9_takesOne 9 = .ok (.bipush (-4), 2) := by decide +kernel
theorem dX9_takesOne_11 : decode cX9_takesOne 11 = .ok (.ireturn, 1) := by decide +kernel
theorem dX9_takesOne_12 : decode cX9_takesOne 12 = .ok (.aload_n 0, 1) := by decide +kernel
theorem dX9_takesOne_13 : decode cX9_takesOne 13 = .ok (.dup, 1) := by decide +kernel
theorem dX9_takesOne_14 : decode cX9_takesOne 14 = .ok (.getfield 154, 3) := by decide +kernel
theorem dX9_takesOne_17 : decode cX9_takesOne 17 = .ok (.iconst 1, 1) := by decide +kernel
theorem dX9_takesOne_18 : decode cX9_takesOne 18 = .ok (.iadd, 1) := by decide +kernel
theorem dX9_takesOne_19 : decode cX9_takesOne 19 = .ok (.putfield 154, 3) := by decide +kernel
theorem dX9_takesOne_22 : decode cX9_takesOne 22 = .ok (.aload_n 0, 1) := by decide +kernel
theorem dX9_takesOne_23 : decode cX9_takesOne 23 = .ok (.getfield 22, 3) := by decide +kernel
theorem dX9_takesOne_26 : decode cX9_takesOne 26 = .ok (.aload_n 0, 1) := by decide +kernel
theorem dX9_takesOne_27 : decode cX9_takesOne 27 = .ok (.getfield 154, 3) := by decide +kernel
theorem dX9_takesOne_30 : decode cX9_takesOne 30 = .ok (.iconst 1, 1) := by decide +kernel
theorem dX9_takesOne_31 : decode cX9_takesOne 31 = .ok (.isub, 1) := by decide +kernel
theorem dX9_takesOne_32 : decode cX9_takesOne 32 = .ok (.iaload, 1) := by decide +kernel
theorem dX9_takesOne_33 : decode cX9_takesOne 33 = .ok (.ireturn, 1) := by decide +kernel
theorem dX9_readDeed_0 : decode cX9_readDeed 0 = .ok (.iconst 4, 1) := by decide +kernel
theorem dX9_readDeed_1 : decode cX9_readDeed 1 = .ok (.aload_n 0, 1) := by decide +kernel
theorem dX9_readDeed_2 : decode cX9_readDeed 2 = .ok (.getfield 160, 3) := by decide +kernel
theorem dX9_readDeed_5 : decode cX9_readDeed 5 = .ok (.imul, 1) := by decide +kernel
theorem dX9_readDeed_6 : decode cX9_readDeed 6 = .ok (.istore_n 1, 1) := by decide +kernel
theorem dX9_readDeed_7 : decode cX9_readDeed 7 = .ok (.aload_n 0, 1) := by decide +kernel
theorem dX9_readDeed_8 : decode cX9_readDeed 8 = .ok (.getfield 35, 3) := by decide +kernel
theorem dX9_readDeed_11 : decode cX9_readDeed 11 = .ok (.iload_n 1, 1) := by decide +kernel
theorem dX9_readDeed_12 : decode cX9_readDeed 12 = .ok (.aload_n 0, 1) := by decide +kernel
theorem dX9_readDeed_13 : decode cX9_readDeed 13 = .ok (.getfield 154, 3) := by decide +kernel
theorem dX9_readDeed_16 : decode cX9_readDeed 16 = .ok (.iastore, 1) := by decide +kernel
theorem dX9_readDeed_17 : decode cX9_readDeed 17 = .ok (.aload_n 0, 1) := by decide +kernel
theorem dX9_readDeed_18 : decode cX9_readDeed 18 = .ok (.getfield 35, 3) := by decide +kernel
theorem dX9_readDeed_21 : decode cX9_readDeed 21 = .ok (.iload_n 1, 1) := by decide +kernel
theorem dX9_readDeed_22 : decode cX9_readDeed 22 = .ok (.iconst 2, 1) := by decide +kernel
theorem dX9_readDeed_23 : decode cX9_readDeed 23 = .ok (.iadd, 1) := by decide +kernel
theorem dX9_readDeed_24 : decode cX9_readDeed 24 = .ok (.bipush (-4), 2) := by decide +kernel
theorem dX9_readDeed_26 : decode cX9_readDeed 26 = .ok (.iastore, 1) := by decide +kernel
theorem dX9_readDeed_27 : decode cX9_readDeed 27 = .ok (.aload_n 0, 1) := by decide +kernel
theorem dX9_readDeed_28 : decode cX9_readDeed 28 = .ok (.bipush 103, 2) := by decide +kernel
theorem dX9_readDeed_30 : decode cX9_readDeed 30 = .ok (.invokevirtual 163, 3) := by decide +kernel
theorem dX9_readDeed_33 : decode cX9_readDeed 33 = .ok (.istore_n 2, 1) := by decide +kernel
theorem dX9_readDeed_34 : decode cX9_readDeed 34 = .ok (.iload_n 2, 1) := by decide +kernel
theorem dX9_readDeed_35 : decode cX9_readDeed 35 = .ok (.ifCond .eq 32, 3) := by decide +kernel
theorem dX9_readDeed_38 : decode cX9_readDeed 38 = .ok (.aload_n 0, 1) := by decide +kernel
theorem dX9_readDeed_39 : decode cX9_readDeed 39 = .ok (.bipush 48, 2) := by decide +kernel
theorem dX9_readDeed_41 : decode cX9_readDeed 41 = .ok (.bipush 50, 2) := by decide +kernel
theorem dX9_readDeed_43 : decode cX9_readDeed 43 = .ok (.invokevirtual 166, 3) := by decide +kernel
theorem dX9_readDeed_46 : decode cX9_readDeed 46 = .ok (.istore_n 3, 1) := by decide +kernel
theorem dX9_readDeed_47 : decode cX9_readDeed 47 = .ok (.iload_n 3, 1) := by decide +kernel
theorem dX9_readDeed_48 : decode cX9_readDeed 48 = .ok (.bipush (-4), 2) := by decide +kernel
theorem dX9_readDeed_50 : decode cX9_readDeed 50 = .ok (.if_icmp .ne 5, 3) := by decide +kernel
theorem dX9_readDeed_53 : decode cX9_readDeed 53 = .ok (.iconst 0, 1) := by decide +kernel
theorem dX9_readDeed_54 : decode cX9_readDeed 54 = .ok (.ireturn, 1) := by decide +kernel
theorem dX9_readDeed_55 : decode cX9_readDeed 55 = .ok (.aload_n 0, 1) := by decide +kernel
theorem dX9_readDeed_56 : decode cX9_readDeed 56 = .ok (.getfield 35, 3) := by decide +kernel
theorem dX9_readDeed_59 : decode cX9_readDeed 59 = .ok (.iload_n 1, 1) := by decide +kernel
theorem dX9_readDeed_60 : decode cX9_readDeed 60 = .ok (.iconst 2, 1) := by decide +kernel
theorem dX9_readDeed_61 : decode cX9_readDeed 61 = .ok (.iadd, 1) := by decide +kernel
theorem dX9_readDeed_62 : decode cX9_readDeed 62 = .ok (.iload_n 3, 1) := by decide +kernel
theorem dX9_readDeed_63 : decode cX9_readDeed 63 = .ok (.bipush 48, 2) := by decide +kernel
theorem dX9_readDeed_65 : decode cX9_readDeed 65 = .ok (.isub, 1) := by decide +kernel
theorem dX9_readDeed_66 : decode cX9_readDeed 66 = .ok (.iastore, 1) := by decide +kernel
theorem dX9_readDeed_67 : decode cX9_readDeed 67 = .ok (.aload_n 0, 1) := by decide +kernel
theorem dX9_readDeed_68 : decode cX9_readDeed 68 = .ok (.bipush 111, 2) := by decide +kernel
theorem dX9_readDeed_70 : decode cX9_readDeed 70 = .ok (.bipush 111, 2) := by decide +kernel
theorem dX9_readDeed_72 : decode cX9_readDeed 72 = .ok (.invokevirtual 157, 3) := by decide +kernel
theorem dX9_readDeed_75 : decode cX9_readDeed 75 = .ok (.ifCond .ne 29, 3) := by decide +kernel
theorem dX9_readDeed_78 : decode cX9_readDeed 78 = .ok (.aload_n 0, 1) := by decide +kernel
theorem dX9_readDeed_79 : decode cX9_readDeed 79 = .ok (.bipush 99, 2) := by decide +kernel
theorem dX9_readDeed_81 : decode cX9_readDeed 81 = .ok (.bipush 99, 2) := by decide +kernel
theorem dX9_readDeed_83 : decode cX9_readDeed 83 = .ok (.invokevirtual 157, 3) := by decide +kernel
theorem dX9_readDeed_86 : decode cX9_readDeed 86 = .ok (.ifCond .ne 18, 3) := by decide +kernel
theorem dX9_readDeed_89 : decode cX9_readDeed 89 = .ok (.iload_n 2, 1) := by decide +kernel
theorem dX9_readDeed_90 : decode cX9_readDeed 90 = .ok (.ifCond .eq 18, 3) := by decide +kernel
theorem dX9_readDeed_93 : decode cX9_readDeed 93 = .ok (.aload_n 0, 1) := by decide +kernel
theorem dX9_readDeed_94 : decode cX9_readDeed 94 = .ok (.bipush 119, 2) := by decide +kernel
theorem dX9_readDeed_96 : decode cX9_readDeed 96 = .ok (.bipush 119, 2) := by decide +kernel
theorem dX9_readDeed_98 : decode cX9_readDeed 98 = .ok (.invokevirtual 157, 3) := by decide +kernel
theorem dX9_readDeed_101 : decode cX9_readDeed 101 = .ok (.ifCond .eq 7, 3) := by decide +kernel
theorem dX9_readDeed_104 : decode cX9_readDeed 104 = .ok (.iconst 1, 1) := by decide +kernel
theorem dX9_readDeed_105 : decode cX9_readDeed 105 = .ok (.goto 4, 3) := by decide +kernel
theorem dX9_readDeed_108 : decode cX9_readDeed 108 = .ok (.iconst 0, 1) := by decide +kernel
theorem dX9_readDeed_109 : decode cX9_readDeed 109 = .ok (.istore_n 3, 1) := by decide +kernel
theorem dX9_readDeed_110 : decode cX9_readDeed 110 = .ok (.iload_n 3, 1) := by decide +kernel
theorem dX9_readDeed_111 : decode cX9_readDeed 111 = .ok (.ifCond .ne 5, 3) := by decide +kernel
theorem dX9_readDeed_114 : decode cX9_readDeed 114 = .ok (.iconst 0, 1) := by decide +kernel
theorem dX9_readDeed_115 : decode cX9_readDeed 115 = .ok (.ireturn, 1) := by decide +kernel
theorem dX9_readDeed_116 : decode cX9_readDeed 116 = .ok (.aload_n 0, 1) := by decide +kernel
theorem dX9_readDeed_117 : decode cX9_readDeed 117 = .ok (.getfield 35, 3) := by decide +kernel
theorem dX9_readDeed_120 : decode cX9_readDeed 120 = .ok (.iload_n 1, 1) := by decide +kernel
theorem dX9_readDeed_121 : decode cX9_readDeed 121 = .ok (.iconst 1, 1) := by decide +kernel
theorem dX9_readDeed_122 : decode cX9_readDeed 122 = .ok (.iadd, 1) := by decide +kernel
theorem dX9_readDeed_123 : decode cX9_readDeed 123 = .ok (.aload_n 0, 1) := by decide +kernel
theorem dX9_readDeed_124 : decode cX9_readDeed 124 = .ok (.getfield 22, 3) := by decide +kernel
theorem dX9_readDeed_127 : decode cX9_readDeed 127 = .ok (.aload_n 0, 1) := by decide +kernel
theorem dX9_readDeed_128 : decode cX9_readDeed 128 = .ok (.getfield 154, 3) := by decide +kernel
theorem dX9_readDeed_131 : decode cX9_readDeed 131 = .ok (.iaload, 1) := by decide +kernel
theorem dX9_readDeed_132 : decode cX9_readDeed 132 = .ok (.iastore, 1) := by decide +kernel
theorem dX9_readDeed_133 : decode cX9_readDeed 133 = .ok (.aload_n 0, 1) := by decide +kernel
theorem dX9_readDeed_134 : decode cX9_readDeed 134 = .ok (.dup, 1) := by decide +kernel
theorem dX9_readDeed_135 : decode cX9_readDeed 135 = .ok (.getfield 154, 3) := by decide +kernel
theorem dX9_readDeed_138 : decode cX9_readDeed 138 = .ok (.iconst 1, 1) := by decide +kernel
theorem dX9_readDeed_139 : decode cX9_readDeed 139 = .ok (.iadd, 1) := by decide +kernel
theorem dX9_readDeed_140 : decode cX9_readDeed 140 = .ok (.putfield 154, 3) := by decide +kernel
theorem dX9_readDeed_143 : decode cX9_readDeed 143 = .ok (.aload_n 0, 1) := by decide +kernel
theorem dX9_readDeed_144 : decode cX9_readDeed 144 = .ok (.bipush 48, 2) := by decide +kernel
theorem dX9_readDeed_146 : decode cX9_readDeed 146 = .ok (.bipush 57, 2) := by decide +kernel
theorem dX9_readDeed_148 : decode cX9_readDeed 148 = .ok (.invokevirtual 166, 3) := by decide +kernel
theorem dX9_readDeed_151 : decode cX9_readDeed 151 = .ok (.istore 4, 2) := by decide +kernel
theorem dX9_readDeed_153 : decode cX9_readDeed 153 = .ok (.aload_n 0, 1) := by decide +kernel
theorem dX9_readDeed_154 : decode cX9_readDeed 154 = .ok (.getfield 35, 3) := by decide +kernel
theorem dX9_readDeed_157 : decode cX9_readDeed 157 = .ok (.iload_n 1, 1) := by decide +kernel
theorem dX9_readDeed_158 : decode cX9_readDeed 158 = .ok (.iconst 3, 1) := by decide +kernel
theorem dX9_readDeed_159 : decode cX9_readDeed 159 = .ok (.iadd, 1) := by decide +kernel
theorem dX9_readDeed_160 : decode cX9_readDeed 160 = .ok (.iload 4, 2) := by decide +kernel
theorem dX9_readDeed_162 : decode cX9_readDeed 162 = .ok (.bipush 48, 2) := by decide +kernel
theorem dX9_readDeed_164 : decode cX9_readDeed 164 = .ok (.isub, 1) := by decide +kernel
theorem dX9_readDeed_165 : decode cX9_readDeed 165 = .ok (.iastore, 1) := by decide +kernel
theorem dX9_readDeed_166 : decode cX9_readDeed 166 = .ok (.aload_n 0, 1) := by decide +kernel
theorem dX9_readDeed_167 : decode cX9_readDeed 167 = .ok (.dup, 1) := by decide +kernel
theorem dX9_readDeed_168 : decode cX9_readDeed 168 = .ok (.getfield 160, 3) := by decide +kernel
theorem dX9_readDeed_171 : decode cX9_readDeed 171 = .ok (.iconst 1, 1) := by decide +kernel
theorem dX9_readDeed_172 : decode cX9_readDeed 172 = .ok (.iadd, 1) := by decide +kernel
theorem dX9_readDeed_173 : decode cX9_readDeed 173 = .ok (.putfield 160, 3) := by decide +kernel
theorem dX9_readDeed_176 : decode cX9_readDeed 176 = .ok (.iload 4, 2) := by decide +kernel
theorem dX9_readDeed_178 : decode cX9_readDeed 178 = .ok (.bipush (-4), 2) := by decide +kernel
theorem dX9_readDeed_180 : decode cX9_readDeed 180 = .ok (.if_icmp .eq 7, 3) := by decide +kernel
theorem dX9_readDeed_183 : decode cX9_readDeed 183 = .ok (.iconst 1, 1) := by decide +kernel
theorem dX9_readDeed_184 : decode cX9_readDeed 184 = .ok (.goto 4, 3) := by decide +kernel
theorem dX9_readDeed_187 : decode cX9_readDeed 187 = .ok (.iconst 0, 1) := by decide +kernel
theorem dX9_readDeed_188 : decode cX9_readDeed 188 = .ok (.ireturn, 1) := by decide +kernel
theorem dX9_readPad_0 : decode cX9_readPad 0 = .ok (.aload_n 0, 1) := by decide +kernel
theorem dX9_readPad_1 : decode cX9_readPad 1 = .ok (.iconst 0, 1) := by decide +kernel
theorem dX9_readPad_2 : decode cX9_readPad 2 = .ok (.putfield 154, 3) := by decide +kernel
theorem dX9_readPad_5 : decode cX9_readPad 5 = .ok (.aload_n 0, 1) := by decide +kernel
theorem dX9_readPad_6 : decode cX9_readPad 6 = .ok (.iconst 0, 1) := by decide +kernel
theorem dX9_readPad_7 : decode cX9_readPad 7 = .ok (.putfield 160, 3) := by decide +kernel
theorem dX9_readPad_10 : decode cX9_readPad 10 = .ok (.aload_n 0, 1) := by decide +kernel
theorem dX9_readPad_11 : decode cX9_readPad 11 = .ok (.invokevirtual 169, 3) := by decide +kernel
theorem dX9_readPad_14 : decode cX9_readPad 14 = .ok (.istore_n 1, 1) := by decide +kernel
theorem dX9_readPad_15 : decode cX9_readPad 15 = .ok (.iload_n 1, 1) := by decide +kernel
theorem dX9_readPad_16 : decode cX9_readPad 16 = .ok (.ifCond .eq 39, 3) := by decide +kernel
theorem dX9_readPad_19 : decode cX9_readPad 19 = .ok (.aload_n 0, 1) := by decide +kernel
theorem dX9_readPad_20 : decode cX9_readPad 20 = .ok (.getfield 154, 3) := by decide +kernel
theorem dX9_readPad_23 : decode cX9_readPad 23 = .ok (.aload_n 0, 1) := by decide +kernel
theorem dX9_readPad_24 : decode cX9_readPad 24 = .ok (.getfield 151, 3) := by decide +kernel
theorem dX9_readPad_27 : decode cX9_readPad 27 = .ok (.if_icmp .ge 28, 3) := by decide +kernel
theorem dX9_readPad_30 : decode cX9_readPad 30 = .ok (.aload_n 0, 1) := by decide +kernel
theorem dX9_readPad_31 : decode cX9_readPad 31 = .ok (.bipush 59, 2) := by decide +kernel
theorem dX9_readPad_33 : decode cX9_readPad 33 = .ok (.invokevirtual 163, 3) := by decide +kernel
theorem dX9_readPad_36 : decode cX9_readPad 36 = .ok (.ifCond .eq 14, 3) := by decide +kernel
theorem dX9_readPad_39 : decode cX9_readPad 39 = .ok (.aload_n 0, 1) := by decide +kernel
theorem dX9_readPad_40 : decode cX9_readPad 40 = .ok (.invokevirtual 169, 3) := by decide +kernel
theorem dX9_readPad_43 : decode cX9_readPad 43 = .ok (.ifCond .eq 7, 3) := by decide +kernel
theorem dX9_readPad_46 : decode cX9_readPad 46 = .ok (.iconst 1, 1) := by decide +kernel
theorem dX9_readPad_47 : decode cX9_readPad 47 = .ok (.goto 4, 3) := by decide +kernel
theorem dX9_readPad_50 : decode cX9_readPad 50 = .ok (.iconst 0, 1) := by decide +kernel
theorem dX9_readPad_51 : decode cX9_readPad 51 = .ok (.istore_n 1, 1) := by decide +kernel
theorem dX9_readPad_52 : decode cX9_readPad 52 = .ok (.goto (-37), 3) := by decide +kernel
theorem dX9_readPad_55 : decode cX9_readPad 55 = .ok (.iload_n 1, 1) := by decide +kernel
theorem dX9_readPad_56 : decode cX9_readPad 56 = .ok (.ireturn, 1) := by decide +kernel
theorem dX9_fault_0 : decode cX9_fault 0 = .ok (.aload_n 0, 1) := by decide +kernel
theorem dX9_fault_1 : decode cX9_fault 1 = .ok (.invokevirtual 173, 3) := by decide +kernel
theorem dX9_fault_4 : decode cX9_fault 4 = .ok (.ifCond .eq 8, 3) := by decide +kernel
theorem dX9_fault_7 : decode cX9_fault 7 = .ok (.bipush (-4), 2) := by decide +kernel
theorem dX9_fault_9 : decode cX9_fault 9 = .ok (.goto 7, 3) := by decide +kernel
theorem dX9_fault_12 : decode cX9_fault 12 = .ok (.aload_n 0, 1) := by decide +kernel
theorem dX9_fault_13 : decode cX9_fault 13 = .ok (.getfield 154, 3) := by decide +kernel
theorem dX9_fault_16 : decode cX9_fault 16 = .ok (.ireturn, 1) := by decide +kernel
theorem dX9_doDeed_0 : decode cX9_doDeed 0 = .ok (.aload_n 0, 1) := by decide +kernel
theorem dX9_doDeed_1 : decode cX9_doDeed 1 = .ok (.getfield 35, 3) := by decide +kernel
theorem dX9_doDeed_4 : decode cX9_doDeed 4 = .ok (.iconst 4, 1) := by decide +kernel
theorem dX9_doDeed_5 : decode cX9_doDeed 5 = .ok (.iload_n 1, 1) := by decide +kernel
theorem dX9_doDeed_6 : decode cX9_doDeed 6 = .ok (.imul, 1) := by decide +kernel
theorem dX9_doDeed_7 : decode cX9_doDeed 7 = .ok (.iconst 2, 1) := by decide +kernel
theorem dX9_doDeed_8 : decode cX9_doDeed 8 = .ok (.iadd, 1) := by decide +kernel
theorem dX9_doDeed_9 : decode cX9_doDeed 9 = .ok (.iaload, 1) := by decide +kernel
theorem dX9_doDeed_10 : decode cX9_doDeed 10 = .ok (.istore_n 2, 1) := by decide +kernel
theorem dX9_doDeed_11 : decode cX9_doDeed 11 = .ok (.aload_n 0, 1) := by decide +kernel
theorem dX9_doDeed_12 : decode cX9_doDeed 12 = .ok (.getfield 35, 3) := by decide +kernel
theorem dX9_doDeed_15 : decode cX9_doDeed 15 = .ok (.iconst 4, 1) := by decide +kernel
theorem dX9_doDeed_16 : decode cX9_doDeed 16 = .ok (.iload_n 1, 1) := by decide +kernel
theorem dX9_doDeed_17 : decode cX9_doDeed 17 = .ok (.imul, 1) := by decide +kernel
theorem dX9_doDeed_18 : decode cX9_doDeed 18 = .ok (.iconst 3, 1) := by decide +kernel
theorem dX9_doDeed_19 : decode cX9_doDeed 19 = .ok (.iadd, 1) := by decide +kernel
theorem dX9_doDeed_20 : decode cX9_doDeed 20 = .ok (.iaload, 1) := by decide +kernel
theorem dX9_doDeed_21 : decode cX9_doDeed 21 = .ok (.istore_n 3, 1) := by decide +kernel
theorem dX9_doDeed_22 : decode cX9_doDeed 22 = .ok (.aload_n 0, 1) := by decide +kernel
theorem dX9_doDeed_23 : decode cX9_doDeed 23 = .ok (.getfield 35, 3) := by decide +kernel
theorem dX9_doDeed_26 : decode cX9_doDeed 26 = .ok (.iconst 4, 1) := by decide +kernel
theorem dX9_doDeed_27 : decode cX9_doDeed 27 = .ok (.iload_n 1, 1) := by decide +kernel
theorem dX9_doDeed_28 : decode cX9_doDeed 28 = .ok (.imul, 1) := by decide +kernel
theorem dX9_doDeed_29 : decode cX9_doDeed 29 = .ok (.iconst 1, 1) := by decide +kernel
theorem dX9_doDeed_30 : decode cX9_doDeed 30 = .ok (.iadd, 1) := by decide +kernel
theorem dX9_doDeed_31 : decode cX9_doDeed 31 = .ok (.iaload, 1) := by decide +kernel
theorem dX9_doDeed_32 : decode cX9_doDeed 32 = .ok (.lookupswitch 70 #[(99, 49), (111, 28)], 28) := by decide +kernel
theorem dX9_doDeed_60 : decode cX9_doDeed 60 = .ok (.iload_n 2, 1) := by decide +kernel
theorem dX9_doDeed_61 : decode cX9_doDeed 61 = .ok (.bipush (-4), 2) := by decide +kernel
theorem dX9_doDeed_63 : decode cX9_doDeed 63 = .ok (.if_icmp .ne 11, 3) := by decide +kernel
theorem dX9_doDeed_66 : decode cX9_doDeed 66 = .ok (.aload_n 0, 1) := by decide +kernel
theorem dX9_doDeed_67 : decode cX9_doDeed 67 = .ok (.iload_n 3, 1) := by decide +kernel
theorem dX9_doDeed_68 : decode cX9_doDeed 68 = .ok (.invokevirtual 118, 3) := by decide +kernel
theorem dX9_doDeed_71 : decode cX9_doDeed 71 = .ok (.goto 9, 3) := by decide +kernel
theorem dX9_doDeed_74 : decode cX9_doDeed 74 = .ok (.aload_n 0, 1) := by decide +kernel
theorem dX9_doDeed_75 : decode cX9_doDeed 75 = .ok (.iload_n 2, 1) := by decide +kernel
theorem dX9_doDeed_76 : decode cX9_doDeed 76 = .ok (.iload_n 3, 1) := by decide +kernel
theorem dX9_doDeed_77 : decode cX9_doDeed 77 = .ok (.invokevirtual 133, 3) := by decide +kernel
theorem dX9_doDeed_80 : decode cX9_doDeed 80 = .ok (.ireturn, 1) := by decide +kernel
theorem dX9_doDeed_81 : decode cX9_doDeed 81 = .ok (.iload_n 2, 1) := by decide +kernel
theorem dX9_doDeed_82 : decode cX9_doDeed 82 = .ok (.bipush (-4), 2) := by decide +kernel
theorem dX9_doDeed_84 : decode cX9_doDeed 84 = .ok (.if_icmp .ne 11, 3) := by decide +kernel
theorem dX9_doDeed_87 : decode cX9_doDeed 87 = .ok (.aload_n 0, 1) := by decide +kernel
theorem dX9_doDeed_88 : decode cX9_doDeed 88 = .ok (.iload_n 3, 1) := by decide +kernel
theorem dX9_doDeed_89 : decode cX9_doDeed 89 = .ok (.invokevirtual 121, 3) := by decide +kernel
theorem dX9_doDeed_92 : decode cX9_doDeed 92 = .ok (.goto 9, 3) := by decide +kernel
theorem dX9_doDeed_95 : decode cX9_doDeed 95 = .ok (.aload_n 0, 1) := by decide +kernel
theorem dX9_doDeed_96 : decode cX9_doDeed 96 = .ok (.iload_n 2, 1) := by decide +kernel
theorem dX9_doDeed_97 : decode cX9_doDeed 97 = .ok (.iload_n 3, 1) := by decide +kernel
theorem dX9_doDeed_98 : decode cX9_doDeed 98 = .ok (.invokevirtual 136, 3) := by decide +kernel
theorem dX9_doDeed_101 : decode cX9_doDeed 101 = .ok (.ireturn, 1) := by decide +kernel
theorem dX9_doDeed_102 : decode cX9_doDeed 102 = .ok (.aload_n 0, 1) := by decide +kernel
theorem dX9_doDeed_103 : decode cX9_doDeed 103 = .ok (.iload_n 2, 1) := by decide +kernel
theorem dX9_doDeed_104 : decode cX9_doDeed 104 = .ok (.iload_n 3, 1) := by decide +kernel
theorem dX9_doDeed_105 : decode cX9_doDeed 105 = .ok (.invokevirtual 139, 3) := by decide +kernel
theorem dX9_doDeed_108 : decode cX9_doDeed 108 = .ok (.ireturn, 1) := by decide +kernel
theorem dX9_run_0 : decode cX9_run 0 = .ok (.aload_n 0, 1) := by decide +kernel
theorem dX9_run_1 : decode cX9_run 1 = .ok (.invokevirtual 173, 3) := by decide +kernel
theorem dX9_run_4 : decode cX9_run 4 = .ok (.ifCond .ne 6, 3) := by decide +kernel
theorem dX9_run_7 : decode cX9_run 7 = .ok (.bipush (-2), 2) := by decide +kernel
theorem dX9_run_9 : decode cX9_run 9 = .ok (.ireturn, 1) := by decide +kernel
theorem dX9_run_10 : decode cX9_run 10 = .ok (.aload_n 0, 1) := by decide +kernel
theorem dX9_run_11 : decode cX9_run 11 = .ok (.invokevirtual 71, 3) := by decide +kernel
theorem dX9_run_14 : decode cX9_run 14 = .ok (.aload_n 0, 1) := by decide +kernel
theorem dX9_run_15 : decode cX9_run 15 = .ok (.bipush (-4), 2) := by decide +kernel
theorem dX9_run_17 : decode cX9_run 17 = .ok (.putfield 25, 3) := by decide +kernel
theorem dX9_run_20 : decode cX9_run 20 = .ok (.aload_n 0, 1) := by decide +kernel
theorem dX9_run_21 : decode cX9_run 21 = .ok (.bipush (-4), 2) := by decide +kernel
theorem dX9_run_23 : decode cX9_run 23 = .ok (.putfield 29, 3) := by decide +kernel
theorem dX9_run_26 : decode cX9_run 26 = .ok (.aload_n 0, 1) := by decide +kernel
theorem dX9_run_27 : decode cX9_run 27 = .ok (.bipush (-4), 2) := by decide +kernel
theorem dX9_run_29 : decode cX9_run 29 = .ok (.putfield 32, 3) := by decide +kernel
theorem dX9_run_32 : decode cX9_run 32 = .ok (.aload_n 0, 1) := by decide +kernel
theorem dX9_run_33 : decode cX9_run 33 = .ok (.iconst 0, 1) := by decide +kernel
theorem dX9_run_34 : decode cX9_run 34 = .ok (.putfield 151, 3) := by decide +kernel
theorem dX9_run_37 : decode cX9_run 37 = .ok (.iconst 0, 1) := by decide +kernel
theorem dX9_run_38 : decode cX9_run 38 = .ok (.istore_n 1, 1) := by decide +kernel
theorem dX9_run_39 : decode cX9_run 39 = .ok (.iload_n 1, 1) := by decide +kernel
theorem dX9_run_40 : decode cX9_run 40 = .ok (.aload_n 0, 1) := by decide +kernel
theorem dX9_run_41 : decode cX9_run 41 = .ok (.getfield 160, 3) := by decide +kernel
theorem dX9_run_44 : decode cX9_run 44 = .ok (.if_icmp .ge 45, 3) := by decide +kernel
theorem dX9_run_47 : decode cX9_run 47 = .ok (.aload_n 0, 1) := by decide +kernel
theorem dX9_run_48 : decode cX9_run 48 = .ok (.iload_n 1, 1) := by decide +kernel
theorem dX9_run_49 : decode cX9_run 49 = .ok (.invokevirtual 176, 3) := by decide +kernel
theorem dX9_run_52 : decode cX9_run 52 = .ok (.istore_n 2, 1) := by decide +kernel
theorem dX9_run_53 : decode cX9_run 53 = .ok (.iload_n 2, 1) := by decide +kernel
theorem dX9_run_54 : decode cX9_run 54 = .ok (.bipush 10, 2) := by decide +kernel
theorem dX9_run_56 : decode cX9_run 56 = .ok (.if_icmp .ge 27, 3) := by decide +kernel
theorem dX9_run_59 : decode cX9_run 59 = .ok (.aload_n 0, 1) := by decide +kernel
theorem dX9_run_60 : decode cX9_run 60 = .ok (.iload_n 2, 1) := by decide +kernel
theorem dX9_run_61 : decode cX9_run 61 = .ok (.putfield 25, 3) := by decide +kernel
theorem dX9_run_64 : decode cX9_run 64 = .ok (.aload_n 0, 1) := by decide +kernel
theorem dX9_run_65 : decode cX9_run 65 = .ok (.iload_n 1, 1) := by decide +kernel
theorem dX9_run_66 : decode cX9_run 66 = .ok (.putfield 29, 3) := by decide +kernel
theorem dX9_run_69 : decode cX9_run 69 = .ok (.aload_n 0, 1) := by decide +kernel
theorem dX9_run_70 : decode cX9_run 70 = .ok (.aload_n 0, 1) := by decide +kernel
theorem dX9_run_71 : decode cX9_run 71 = .ok (.getfield 35, 3) := by decide +kernel
theorem dX9_run_74 : decode cX9_run 74 = .ok (.iconst 4, 1) := by decide +kernel
theorem dX9_run_75 : decode cX9_run 75 = .ok (.iload_n 1, 1) := by decide +kernel
theorem dX9_run_76 : decode cX9_run 76 = .ok (.imul, 1) := by decide +kernel
theorem dX9_run_77 : decode cX9_run 77 = .ok (.iaload, 1) := by decide +kernel
theorem dX9_run_78 : decode cX9_run 78 = .ok (.putfield 32, 3) := by decide +kernel
theorem dX9_run_81 : decode cX9_run 81 = .ok (.iload_n 1, 1) := by decide +kernel
theorem dX9_run_82 : decode cX9_run 82 = .ok (.ireturn, 1) := by decide +kernel
theorem dX9_run_83 : decode cX9_run 83 = .ok (.iinc 1 1, 3) := by decide +kernel
theorem dX9_run_86 : decode cX9_run 86 = .ok (.goto (-47), 3) := by decide +kernel
theorem dX9_run_89 : decode cX9_run 89 = .ok (.aload_n 0, 1) := by decide +kernel
theorem dX9_run_90 : decode cX9_run 90 = .ok (.getfield 160, 3) := by decide +kernel
theorem dX9_run_93 : decode cX9_run 93 = .ok (.ireturn, 1) := by decide +kernel
theorem dX9_why_0 : decode cX9_why 0 = .ok (.iload_n 1, 1) := by decide +kernel
theorem dX9_why_1 : decode cX9_why 1 = .ok (.ifCond .ne 10, 3) := by decide +kernel
theorem dX9_why_4 : decode cX9_why 4 = .ok (.aload_n 0, 1) := by decide +kernel
theorem dX9_why_5 : decode cX9_why 5 = .ok (.getfield 25, 3) := by decide +kernel
theorem dX9_why_8 : decode cX9_why 8 = .ok (.goto 28, 3) := by decide +kernel
theorem dX9_why_11 : decode cX9_why 11 = .ok (.iload_n 1, 1) := by decide +kernel
theorem dX9_why_12 : decode cX9_why 12 = .ok (.iconst 1, 1) := by decide +kernel
theorem dX9_why_13 : decode cX9_why 13 = .ok (.if_icmp .ne 10, 3) := by decide +kernel
theorem dX9_why_16 : decode cX9_why 16 = .ok (.aload_n 0, 1) := by decide +kernel
theorem dX9_why_17 : decode cX9_why 17 = .ok (.getfield 29, 3) := by decide +kernel
theorem dX9_why_20 : decode cX9_why 20 = .ok (.goto 16, 3) := by decide +kernel
theorem dX9_why_23 : decode cX9_why 23 = .ok (.iload_n 1, 1) := by decide +kernel
theorem dX9_why_24 : decode cX9_why 24 = .ok (.iconst 2, 1) := by decide +kernel
theorem dX9_why_25 : decode cX9_why 25 = .ok (.if_icmp .ne 10, 3) := by decide +kernel
theorem dX9_why_28 : decode cX9_why 28 = .ok (.aload_n 0, 1) := by decide +kernel
theorem dX9_why_29 : decode cX9_why 29 = .ok (.getfield 32, 3) := by decide +kernel
theorem dX9_why_32 : decode cX9_why 32 = .ok (.goto 4, 3) := by decide +kernel
theorem dX9_why_35 : decode cX9_why 35 = .ok (.iconst (-1), 1) := by decide +kernel
theorem dX9_why_36 : decode cX9_why 36 = .ok (.ireturn, 1) := by decide +kernel
theorem dX9_door_0 : decode cX9_door 0 = .ok (.iload_n 1, 1) := by decide +kernel
theorem dX9_door_1 : decode cX9_door 1 = .ok (.invokestatic 127, 3) := by decide +kernel
theorem dX9_door_4 : decode cX9_door 4 = .ok (.ifCond .ne 5, 3) := by decide +kernel
theorem dX9_door_7 : decode cX9_door 7 = .ok (.iconst (-1), 1) := by decide +kernel
theorem dX9_door_8 : decode cX9_door 8 = .ok (.ireturn, 1) := by decide +kernel
theorem dX9_door_9 : decode cX9_door 9 = .ok (.iload_n 2, 1) := by decide +kernel
theorem dX9_door_10 : decode cX9_door 10 = .ok (.tableswitch 134 0 9 #[54, 61, 67, 73, 80, 87, 102, 102, 119, 126], 54) := by decide +kernel
theorem dX9_door_64 : decode cX9_door 64 = .ok (.aload_n 0, 1) := by decide +kernel
theorem dX9_door_65 : decode cX9_door 65 = .ok (.iload_n 1, 1) := by decide +kernel
theorem dX9_door_66 : decode cX9_door 66 = .ok (.iconst 0, 1) := by decide +kernel
theorem dX9_door_67 : decode cX9_door 67 = .ok (.invokevirtual 52, 3) := by decide +kernel
theorem dX9_door_70 : decode cX9_door 70 = .ok (.ireturn, 1) := by decide +kernel
theorem dX9_door_71 : decode cX9_door 71 = .ok (.aload_n 0, 1) := by decide +kernel
theorem dX9_door_72 : decode cX9_door 72 = .ok (.iload_n 1, 1) := by decide +kernel
theorem dX9_door_73 : decode cX9_door 73 = .ok (.invokevirtual 142, 3) := by decide +kernel
theorem dX9_door_76 : decode cX9_door 76 = .ok (.ireturn, 1) := by decide +kernel
theorem dX9_door_77 : decode cX9_door 77 = .ok (.aload_n 0, 1) := by decide +kernel
theorem dX9_door_78 : decode cX9_door 78 = .ok (.iload_n 1, 1) := by decide +kernel
theorem dX9_door_79 : decode cX9_door 79 = .ok (.invokevirtual 148, 3) := by decide +kernel
theorem dX9_door_82 : decode cX9_door 82 = .ok (.ireturn, 1) := by decide +kernel
theorem dX9_door_83 : decode cX9_door 83 = .ok (.aload_n 0, 1) := by decide +kernel
theorem dX9_door_84 : decode cX9_door 84 = .ok (.iload_n 1, 1) := by decide +kernel
theorem dX9_door_85 : decode cX9_door 85 = .ok (.iconst 3, 1) := by decide +kernel
theorem dX9_door_86 : decode cX9_door 86 = .ok (.invokevirtual 52, 3) := by decide +kernel
theorem dX9_door_89 : decode cX9_door 89 = .ok (.ireturn, 1) := by decide +kernel
theorem dX9_door_90 : decode cX9_door 90 = .ok (.aload_n 0, 1) := by decide +kernel
theorem dX9_door_91 : decode cX9_door 91 = .ok (.iload_n 1, 1) := by decide +kernel
theorem dX9_door_92 : decode cX9_door 92 = .ok (.iconst 4, 1) := by decide +kernel
theorem dX9_door_93 : decode cX9_door 93 = .ok (.invokevirtual 52, 3) := by decide +kernel
theorem dX9_door_96 : decode cX9_door 96 = .ok (.ireturn, 1) := by decide +kernel
theorem dX9_door_97 : decode cX9_door 97 = .ok (.aload_n 0, 1) := by decide +kernel
theorem dX9_door_98 : decode cX9_door 98 = .ok (.iload_n 1, 1) := by decide +kernel
theorem dX9_door_99 : decode cX9_door 99 = .ok (.iconst 1, 1) := by decide +kernel
theorem dX9_door_100 : decode cX9_door 100 = .ok (.invokevirtual 82, 3) := by decide +kernel
theorem dX9_door_103 : decode cX9_door 103 = .ok (.ifCond .le 7, 3) := by decide +kernel
theorem dX9_door_106 : decode cX9_door 106 = .ok (.iconst 1, 1) := by decide +kernel
theorem dX9_door_107 : decode cX9_door 107 = .ok (.goto 4, 3) := by decide +kernel
theorem dX9_door_110 : decode cX9_door 110 = .ok (.iconst 0, 1) := by decide +kernel
theorem dX9_door_111 : decode cX9_door 111 = .ok (.ireturn, 1) := by decide +kernel
theorem dX9_door_112 : decode cX9_door 112 = .ok (.aload_n 0, 1) := by decide +kernel
theorem dX9_door_113 : decode cX9_door 113 = .ok (.iload_n 1, 1) := by decide +kernel
theorem dX9_door_114 : decode cX9_door 114 = .ok (.iload_n 2, 1) := by decide +kernel
theorem dX9_door_115 : decode cX9_door 115 = .ok (.bipush 7, 2) := by decide +kernel
theorem dX9_door_117 : decode cX9_door 117 = .ok (.if_icmp .ne 7, 3) := by decide +kernel
theorem dX9_door_120 : decode cX9_door 120 = .ok (.iconst 1, 1) := by decide +kernel
theorem dX9_door_121 : decode cX9_door 121 = .ok (.goto 4, 3) := by decide +kernel
theorem dX9_door_124 : decode cX9_door 124 = .ok (.iconst 0, 1) := by decide +kernel
theorem dX9_door_125 : decode cX9_door 125 = .ok (.invokevirtual 82, 3) := by decide +kernel
theorem dX9_door_128 : decode cX9_door 128 = .ok (.ireturn, 1) := by decide +kernel
theorem dX9_door_129 : decode cX9_door 129 = .ok (.aload_n 0, 1) := by decide +kernel
theorem dX9_door_130 : decode cX9_door 130 = .ok (.iload_n 1, 1) := by decide +kernel
theorem dX9_door_131 : decode cX9_door 131 = .ok (.iconst 5, 1) := by decide +kernel
theorem dX9_door_132 : decode cX9_door 132 = .ok (.invokevirtual 52, 3) := by decide +kernel
theorem dX9_door_135 : decode cX9_door 135 = .ok (.ireturn, 1) := by decide +kernel
theorem dX9_door_136 : decode cX9_door 136 = .ok (.aload_n 0, 1) := by decide +kernel
theorem dX9_door_137 : decode cX9_door 137 = .ok (.iload_n 1, 1) := by decide +kernel
theorem dX9_door_138 : decode cX9_door 138 = .ok (.bipush 6, 2) := by decide +kernel
theorem dX9_door_140 : decode cX9_door 140 = .ok (.invokevirtual 52, 3) := by decide +kernel
theorem dX9_door_143 : decode cX9_door 143 = .ok (.ireturn, 1) := by decide +kernel
theorem dX9_door_144 : decode cX9_door 144 = .ok (.iconst (-1), 1) := by decide +kernel
theorem dX9_door_145 : decode cX9_door 145 = .ok (.ireturn, 1) := by decide +kernel
theorem dX9_doorsOf_0 : decode cX9_doorsOf 0 = .ok (.iconst 0, 1) := by decide +kernel
theorem dX9_doorsOf_1 : decode cX9_doorsOf 1 = .ok (.istore_n 2, 1) := by decide +kernel
theorem dX9_doorsOf_2 : decode cX9_doorsOf 2 = .ok (.iconst 0, 1) := by decide +kernel
theorem dX9_doorsOf_3 : decode cX9_doorsOf 3 = .ok (.istore_n 3, 1) := by decide +kernel
theorem dX9_doorsOf_4 : decode cX9_doorsOf 4 = .ok (.iload_n 3, 1) := by decide +kernel
theorem dX9_doorsOf_5 : decode cX9_doorsOf 5 = .ok (.bipush 10, 2) := by decide +kernel
theorem dX9_doorsOf_7 : decode cX9_doorsOf 7 = .ok (.if_icmp .ge 26, 3) := by decide +kernel
theorem dX9_doorsOf_10 : decode cX9_doorsOf 10 = .ok (.iload_n 2, 1) := by decide +kernel
theorem dX9_doorsOf_11 : decode cX9_doorsOf 11 = .ok (.aload_n 0, 1) := by decide +kernel
theorem dX9_doorsOf_12 : decode cX9_doorsOf 12 = .ok (.iload_n 3, 1) := by decide +kernel
theorem dX9_doorsOf_13 : decode cX9_doorsOf 13 = .ok (.iload_n 1, 1) := by decide +kernel
theorem dX9_doorsOf_14 : decode cX9_doorsOf 14 = .ok (.invokevirtual 86, 3) := by decide +kernel
theorem dX9_doorsOf_17 : decode cX9_doorsOf 17 = .ok (.ifCond .eq 7, 3) := by decide +kernel
theorem dX9_doorsOf_20 : decode cX9_doorsOf 20 = .ok (.iconst 1, 1) := by decide +kernel
theorem dX9_doorsOf_21 : decode cX9_doorsOf 21 = .ok (.goto 4, 3) := by decide +kernel
theorem dX9_doorsOf_24 : decode cX9_doorsOf 24 = .ok (.iconst 0, 1) := by decide +kernel
theorem dX9_doorsOf_25 : decode cX9_doorsOf 25 = .ok (.iadd, 1) := by decide +kernel
theorem dX9_doorsOf_26 : decode cX9_doorsOf 26 = .ok (.istore_n 2, 1) := by decide +kernel
theorem dX9_doorsOf_27 : decode cX9_doorsOf 27 = .ok (.iinc 3 1, 3) := by decide +kernel
theorem dX9_doorsOf_30 : decode cX9_doorsOf 30 = .ok (.goto (-26), 3) := by decide +kernel
theorem dX9_doorsOf_33 : decode cX9_doorsOf 33 = .ok (.iload_n 2, 1) := by decide +kernel
theorem dX9_doorsOf_34 : decode cX9_doorsOf 34 = .ok (.ireturn, 1) := by decide +kernel
theorem dX9_guestsIn_0 : decode cX9_guestsIn 0 = .ok (.iconst 0, 1) := by decide +kernel
theorem dX9_guestsIn_1 : decode cX9_guestsIn 1 = .ok (.istore_n 2, 1) := by decide +kernel
theorem dX9_guestsIn_2 : decode cX9_guestsIn 2 = .ok (.iconst 0, 1) := by decide +kernel
theorem dX9_guestsIn_3 : decode cX9_guestsIn 3 = .ok (.istore_n 3, 1) := by decide +kernel
theorem dX9_guestsIn_4 : decode cX9_guestsIn 4 = .ok (.iload_n 3, 1) := by decide +kernel
theorem dX9_guestsIn_5 : decode cX9_guestsIn 5 = .ok (.iconst 3, 1) := by decide +kernel
theorem dX9_guestsIn_6 : decode cX9_guestsIn 6 = .ok (.if_icmp .ge 27, 3) := by decide +kernel
theorem dX9_guestsIn_9 : decode cX9_guestsIn 9 = .ok (.iload_n 2, 1) := by decide +kernel
theorem dX9_guestsIn_10 : decode cX9_guestsIn 10 = .ok (.aload_n 0, 1) := by decide +kernel
theorem dX9_guestsIn_11 : decode cX9_guestsIn 11 = .ok (.iload_n 3, 1) := by decide +kernel
theorem dX9_guestsIn_12 : decode cX9_guestsIn 12 = .ok (.iconst 0, 1) := by decide +kernel
theorem dX9_guestsIn_13 : decode cX9_guestsIn 13 = .ok (.invokevirtual 109, 3) := by decide +kernel
theorem dX9_guestsIn_16 : decode cX9_guestsIn 16 = .ok (.iload_n 1, 1) := by decide +kernel
theorem dX9_guestsIn_17 : decode cX9_guestsIn 17 = .ok (.if_icmp .ne 7, 3) := by decide +kernel
theorem dX9_guestsIn_20 : decode cX9_guestsIn 20 = .ok (.iconst 1, 1) := by decide +kernel
theorem dX9_guestsIn_21 : decode cX9_guestsIn 21 = .ok (.goto 4, 3) := by decide +kernel
theorem dX9_guestsIn_24 : decode cX9_guestsIn 24 = .ok (.iconst 0, 1) := by decide +kernel
theorem dX9_guestsIn_25 : decode cX9_guestsIn 25 = .ok (.iadd, 1) := by decide +kernel
theorem dX9_guestsIn_26 : decode cX9_guestsIn 26 = .ok (.istore_n 2, 1) := by decide +kernel
theorem dX9_guestsIn_27 : decode cX9_guestsIn 27 = .ok (.iinc 3 1, 3) := by decide +kernel
theorem dX9_guestsIn_30 : decode cX9_guestsIn 30 = .ok (.goto (-26), 3) := by decide +kernel
theorem dX9_guestsIn_33 : decode cX9_guestsIn 33 = .ok (.iload_n 2, 1) := by decide +kernel
theorem dX9_guestsIn_34 : decode cX9_guestsIn 34 = .ok (.ireturn, 1) := by decide +kernel
theorem dX9_hangs_0 : decode cX9_hangs 0 = .ok (.iconst 1, 1) := by decide +kernel
theorem dX9_hangs_1 : decode cX9_hangs 1 = .ok (.iload_n 1, 1) := by decide +kernel
theorem dX9_hangs_2 : decode cX9_hangs 2 = .ok (.ishl, 1) := by decide +kernel
theorem dX9_hangs_3 : decode cX9_hangs 3 = .ok (.istore_n 2, 1) := by decide +kernel
theorem dX9_hangs_4 : decode cX9_hangs 4 = .ok (.iconst 0, 1) := by decide +kernel
theorem dX9_hangs_5 : decode cX9_hangs 5 = .ok (.istore_n 3, 1) := by decide +kernel
theorem dX9_hangs_6 : decode cX9_hangs 6 = .ok (.iload_n 3, 1) := by decide +kernel
theorem dX9_hangs_7 : decode cX9_hangs 7 = .ok (.bipush 6, 2) := by decide +kernel
theorem dX9_hangs_9 : decode cX9_hangs 9 = .ok (.if_icmp .ge 71, 3) := by decide +kernel
theorem dX9_hangs_12 : decode cX9_hangs 12 = .ok (.iconst 0, 1) := by decide +kernel
theorem dX9_hangs_13 : decode cX9_hangs 13 = .ok (.istore 4, 2) := by decide +kernel
theorem dX9_hangs_15 : decode cX9_hangs 15 = .ok (.iload 4, 2) := by decide +kernel
theorem dX9_hangs_17 : decode cX9_hangs 17 = .ok (.bipush 10, 2) := by decide +kernel
theorem dX9_hangs_19 : decode cX9_hangs 19 = .ok (.if_icmp .ge 55, 3) := by decide +kernel
theorem dX9_hangs_22 : decode cX9_hangs 22 = .ok (.iconst 1, 1) := by decide +kernel
theorem dX9_hangs_23 : decode cX9_hangs 23 = .ok (.aload_n 0, 1) := by decide +kernel
theorem dX9_hangs_24 : decode cX9_hangs 24 = .ok (.iload 4, 2) := by decide +kernel
theorem dX9_hangs_26 : decode cX9_hangs 26 = .ok (.iconst 1, 1) := by decide +kernel
theorem dX9_hangs_27 : decode cX9_hangs 27 = .ok (.invokevirtual 52, 3) := by decide +kernel
theorem dX9_hangs_30 : decode cX9_hangs 30 = .ok (.ishl, 1) := by decide +kernel
theorem dX9_hangs_31 : decode cX9_hangs 31 = .ok (.iconst 1, 1) := by decide +kernel
theorem dX9_hangs_32 : decode cX9_hangs 32 = .ok (.aload_n 0, 1) := by decide +kernel
theorem dX9_hangs_33 : decode cX9_hangs 33 = .ok (.iload 4, 2) := by decide +kernel
theorem dX9_hangs_35 : decode cX9_hangs 35 = .ok (.iconst 2, 1) := by decide +kernel
theorem dX9_hangs_36 : decode cX9_hangs 36 = .ok (.invokevirtual 52, 3) := by decide +kernel
theorem dX9_hangs_39 : decode cX9_hangs 39 = .ok (.ishl, 1) := by decide +kernel
theorem dX9_hangs_40 : decode cX9_hangs 40 = .ok (.ior, 1) := by decide +kernel
theorem dX9_hangs_41 : decode cX9_hangs 41 = .ok (.istore 5, 2) := by decide +kernel
theorem dX9_hangs_43 : decode cX9_hangs 43 = .ok (.iload_n 2, 1) := by decide +kernel
theorem dX9_hangs_44 : decode cX9_hangs 44 = .ok (.aload_n 0, 1) := by decide +kernel
theorem dX9_hangs_45 : decode cX9_hangs 45 = .ok (.iload 4, 2) := by decide +kernel
theorem dX9_hangs_47 : decode cX9_hangs 47 = .ok (.invokevirtual 78, 3) := by decide +kernel
theorem dX9_hangs_50 : decode cX9_hangs 50 = .ok (.ifCond .eq 15, 3) := by decide +kernel
theorem dX9_hangs_53 : decode cX9_hangs 53 = .ok (.iload_n 2, 1) := by decide +kernel
theorem dX9_hangs_54 : decode cX9_hangs 54 = .ok (.iload 5, 2) := by decide +kernel
theorem dX9_hangs_56 : decode cX9_hangs 56 = .ok (.iand, 1) := by decide +kernel
theorem dX9_hangs_57 : decode cX9_hangs 57 = .ok (.ifCond .eq 8, 3) := by decide +kernel
theorem dX9_hangs_60 : decode cX9_hangs 60 = .ok (.iload 5, 2) := by decide +kernel
theorem dX9_hangs_62 : decode cX9_hangs 62 = .ok (.goto 4, 3) := by decide +kernel
theorem dX9_hangs_65 : decode cX9_hangs 65 = .ok (.iconst 0, 1) := by decide +kernel
theorem dX9_hangs_66 : decode cX9_hangs 66 = .ok (.ior, 1) := by decide +kernel
theorem dX9_hangs_67 : decode cX9_hangs 67 = .ok (.istore_n 2, 1) := by decide +kernel
theorem dX9_hangs_68 : decode cX9_hangs 68 = .ok (.iinc 4 1, 3) := by decide +kernel
theorem dX9_hangs_71 : decode cX9_hangs 71 = .ok (.goto (-56), 3) := by decide +kernel
theorem dX9_hangs_74 : decode cX9_hangs 74 = .ok (.iinc 3 1, 3) := by decide +kernel
theorem dX9_hangs_77 : decode cX9_hangs 77 = .ok (.goto (-71), 3) := by decide +kernel
theorem dX9_hangs_80 : decode cX9_hangs 80 = .ok (.iload_n 2, 1) := by decide +kernel
theorem dX9_hangs_81 : decode cX9_hangs 81 = .ok (.ireturn, 1) := by decide +kernel
theorem dX9_size_0 : decode cX9_size 0 = .ok (.iconst 0, 1) := by decide +kernel
theorem dX9_size_1 : decode cX9_size 1 = .ok (.istore_n 1, 1) := by decide +kernel
theorem dX9_size_2 : decode cX9_size 2 = .ok (.iconst 0, 1) := by decide +kernel
theorem dX9_size_3 : decode cX9_size 3 = .ok (.istore_n 2, 1) := by decide +kernel
theorem dX9_size_4 : decode cX9_size 4 = .ok (.iload_n 2, 1) := by decide +kernel
theorem dX9_size_5 : decode cX9_size 5 = .ok (.bipush 10, 2) := by decide +kernel
theorem dX9_size_7 : decode cX9_size 7 = .ok (.if_icmp .ge 17, 3) := by decide +kernel
theorem dX9_size_10 : decode cX9_size 10 = .ok (.iload_n 1, 1) := by decide +kernel
theorem dX9_size_11 : decode cX9_size 11 = .ok (.iload_n 0, 1) := by decide +kernel
theorem dX9_size_12 : decode cX9_size 12 = .ok (.iload_n 2, 1) := by decide +kernel
theorem dX9_size_13 : decode cX9_size 13 = .ok (.ishr, 1) := by decide +kernel
theorem dX9_size_14 : decode cX9_size 14 = .ok (.iconst 1, 1) := by decide +kernel
theorem dX9_size_15 : decode cX9_size 15 = .ok (.iand, 1) := by decide +kernel
theorem dX9_size_16 : decode cX9_size 16 = .ok (.iadd, 1) := by decide +kernel
theorem dX9_size_17 : decode cX9_size 17 = .ok (.istore_n 1, 1) := by decide +kernel
theorem dX9_size_18 : decode cX9_size 18 = .ok (.iinc 2 1, 3) := by decide +kernel
theorem dX9_size_21 : decode cX9_size 21 = .ok (.goto (-17), 3) := by decide +kernel
theorem dX9_size_24 : decode cX9_size 24 = .ok (.iload_n 1, 1) := by decide +kernel
theorem dX9_size_25 : decode cX9_size 25 = .ok (.ireturn, 1) := by decide +kernel
theorem dX9_hall_0 : decode cX9_hall 0 = .ok (.iload_n 1, 1) := by decide +kernel
theorem dX9_hall_1 : decode cX9_hall 1 = .ok (.invokestatic 145, 3) := by decide +kernel
theorem dX9_hall_4 : decode cX9_hall 4 = .ok (.ifCond .ne 5, 3) := by decide +kernel
theorem dX9_hall_7 : decode cX9_hall 7 = .ok (.iconst (-1), 1) := by decide +kernel
theorem dX9_hall_8 : decode cX9_hall 8 = .ok (.ireturn, 1) := by decide +kernel
theorem dX9_hall_9 : decode cX9_hall 9 = .ok (.iload_n 2, 1) := by decide +kernel
theorem dX9_hall_10 : decode cX9_hall 10 = .ok (.tableswitch 57 0 3 #[30, 36, 42, 48], 30) := by decide +kernel
theorem dX9_hall_40 : decode cX9_hall 40 = .ok (.aload_n 0, 1) := by decide +kernel
theorem dX9_hall_41 : decode cX9_hall 41 = .ok (.iload_n 1, 1) := by decide +kernel
theorem dX9_hall_42 : decode cX9_hall 42 = .ok (.invokevirtual 179, 3) := by decide +kernel
theorem dX9_hall_45 : decode cX9_hall 45 = .ok (.ireturn, 1) := by decide +kernel
theorem dX9_hall_46 : decode cX9_hall 46 = .ok (.aload_n 0, 1) := by decide +kernel
theorem dX9_hall_47 : decode cX9_hall 47 = .ok (.iload_n 1, 1) := by decide +kernel
theorem dX9_hall_48 : decode cX9_hall 48 = .ok (.invokevirtual 93, 3) := by decide +kernel
theorem dX9_hall_51 : decode cX9_hall 51 = .ok (.ireturn, 1) := by decide +kernel
theorem dX9_hall_52 : decode cX9_hall 52 = .ok (.aload_n 0, 1) := by decide +kernel
theorem dX9_hall_53 : decode cX9_hall 53 = .ok (.iload_n 1, 1) := by decide +kernel
theorem dX9_hall_54 : decode cX9_hall 54 = .ok (.invokevirtual 182, 3) := by decide +kernel
theorem dX9_hall_57 : decode cX9_hall 57 = .ok (.ireturn, 1) := by decide +kernel
theorem dX9_hall_58 : decode cX9_hall 58 = .ok (.aload_n 0, 1) := by decide +kernel
theorem dX9_hall_59 : decode cX9_hall 59 = .ok (.iload_n 1, 1) := by decide +kernel
theorem dX9_hall_60 : decode cX9_hall 60 = .ok (.invokevirtual 185, 3) := by decide +kernel
theorem dX9_hall_63 : decode cX9_hall 63 = .ok (.invokestatic 188, 3) := by decide +kernel
theorem dX9_hall_66 : decode cX9_hall 66 = .ok (.ireturn, 1) := by decide +kernel
theorem dX9_hall_67 : decode cX9_hall 67 = .ok (.iconst (-1), 1) := by decide +kernel
theorem dX9_hall_68 : decode cX9_hall 68 = .ok (.ireturn, 1) := by decide +kernel
theorem dX9_canOpen_0 : decode cX9_canOpen 0 = .ok (.iconst 0, 1) := by decide +kernel
theorem dX9_canOpen_1 : decode cX9_canOpen 1 = .ok (.istore_n 2, 1) := by decide +kernel
theorem dX9_canOpen_2 : decode cX9_canOpen 2 = .ok (.iconst 0, 1) := by decide +kernel
theorem dX9_canOpen_3 : decode cX9_canOpen 3 = .ok (.istore_n 3, 1) := by decide +kernel
theorem dX9_canOpen_4 : decode cX9_canOpen 4 = .ok (.iload_n 3, 1) := by decide +kernel
theorem dX9_canOpen_5 : decode cX9_canOpen 5 = .ok (.bipush 10, 2) := by decide +kernel
theorem dX9_canOpen_7 : decode cX9_canOpen 7 = .ok (.if_icmp .ge 43, 3) := by decide +kernel
theorem dX9_canOpen_10 : decode cX9_canOpen 10 = .ok (.iload_n 2, 1) := by decide +kernel
theorem dX9_canOpen_11 : decode cX9_canOpen 11 = .ok (.aload_n 0, 1) := by decide +kernel
theorem dX9_canOpen_12 : decode cX9_canOpen 12 = .ok (.iload_n 1, 1) := by decide +kernel
theorem dX9_canOpen_13 : decode cX9_canOpen 13 = .ok (.iload_n 3, 1) := by decide +kernel
theorem dX9_canOpen_14 : decode cX9_canOpen 14 = .ok (.invokevirtual 112, 3) := by decide +kernel
theorem dX9_canOpen_17 : decode cX9_canOpen 17 = .ok (.ifCond .eq 24, 3) := by decide +kernel
theorem dX9_canOpen_20 : decode cX9_canOpen 20 = .ok (.aload_n 0, 1) := by decide +kernel
theorem dX9_canOpen_21 : decode cX9_canOpen 21 = .ok (.iload_n 1, 1) := by decide +kernel
theorem dX9_canOpen_22 : decode cX9_canOpen 22 = .ok (.iload_n 3, 1) := by decide +kernel
theorem dX9_canOpen_23 : decode cX9_canOpen 23 = .ok (.invokevirtual 115, 3) := by decide +kernel
theorem dX9_canOpen_26 : decode cX9_canOpen 26 = .ok (.ifCond .eq 15, 3) := by decide +kernel
theorem dX9_canOpen_29 : decode cX9_canOpen 29 = .ok (.aload_n 0, 1) := by decide +kernel
theorem dX9_canOpen_30 : decode cX9_canOpen 30 = .ok (.iload_n 3, 1) := by decide +kernel
theorem dX9_canOpen_31 : decode cX9_canOpen 31 = .ok (.invokevirtual 100, 3) := by decide +kernel
theorem dX9_canOpen_34 : decode cX9_canOpen 34 = .ok (.ifCond .ne 7, 3) := by decide +kernel
theorem dX9_canOpen_37 : decode cX9_canOpen 37 = .ok (.iconst 1, 1) := by decide +kernel
theorem dX9_canOpen_38 : decode cX9_canOpen 38 = .ok (.goto 4, 3) := by decide +kernel
theorem dX9_canOpen_41 : decode cX9_canOpen 41 = .ok (.iconst 0, 1) := by decide +kernel
theorem dX9_canOpen_42 : decode cX9_canOpen 42 = .ok (.iadd, 1) := by decide +kernel
theorem dX9_canOpen_43 : decode cX9_canOpen 43 = .ok (.istore_n 2, 1) := by decide +kernel
theorem dX9_canOpen_44 : decode cX9_canOpen 44 = .ok (.iinc 3 1, 3) := by decide +kernel
theorem dX9_canOpen_47 : decode cX9_canOpen 47 = .ok (.goto (-43), 3) := by decide +kernel
theorem dX9_canOpen_50 : decode cX9_canOpen 50 = .ok (.iload_n 2, 1) := by decide +kernel
theorem dX9_canOpen_51 : decode cX9_canOpen 51 = .ok (.ireturn, 1) := by decide +kernel
theorem dX9_guest_0 : decode cX9_guest 0 = .ok (.iload_n 1, 1) := by decide +kernel
theorem dX9_guest_1 : decode cX9_guest 1 = .ok (.invokestatic 130, 3) := by decide +kernel
theorem dX9_guest_4 : decode cX9_guest 4 = .ok (.ifCond .ne 5, 3) := by decide +kernel
theorem dX9_guest_7 : decode cX9_guest 7 = .ok (.iconst (-1), 1) := by decide +kernel
theorem dX9_guest_8 : decode cX9_guest 8 = .ok (.ireturn, 1) := by decide +kernel
theorem dX9_guest_9 : decode cX9_guest 9 = .ok (.iload_n 2, 1) := by decide +kernel
theorem dX9_guest_10 : decode cX9_guest 10 = .ok (.tableswitch 50 0 3 #[30, 30, 37, 43], 30) := by decide +kernel
theorem dX9_guest_40 : decode cX9_guest 40 = .ok (.aload_n 0, 1) := by decide +kernel
theorem dX9_guest_41 : decode cX9_guest 41 = .ok (.iload_n 1, 1) := by decide +kernel
theorem dX9_guest_42 : decode cX9_guest 42 = .ok (.iload_n 2, 1) := by decide +kernel
theorem dX9_guest_43 : decode cX9_guest 43 = .ok (.invokevirtual 109, 3) := by decide +kernel
theorem dX9_guest_46 : decode cX9_guest 46 = .ok (.ireturn, 1) := by decide +kernel
theorem dX9_guest_47 : decode cX9_guest 47 = .ok (.aload_n 0, 1) := by decide +kernel
theorem dX9_guest_48 : decode cX9_guest 48 = .ok (.iload_n 1, 1) := by decide +kernel
theorem dX9_guest_49 : decode cX9_guest 49 = .ok (.invokevirtual 191, 3) := by decide +kernel
theorem dX9_guest_52 : decode cX9_guest 52 = .ok (.ireturn, 1) := by decide +kernel
theorem dX9_guest_53 : decode cX9_guest 53 = .ok (.aload_n 0, 1) := by decide +kernel
theorem dX9_guest_54 : decode cX9_guest 54 = .ok (.iload_n 1, 1) := by decide +kernel
theorem dX9_guest_55 : decode cX9_guest 55 = .ok (.iconst 2, 1) := by decide +kernel
theorem dX9_guest_56 : decode cX9_guest 56 = .ok (.invokevirtual 109, 3) := by decide +kernel
theorem dX9_guest_59 : decode cX9_guest 59 = .ok (.ireturn, 1) := by decide +kernel
theorem dX9_guest_60 : decode cX9_guest 60 = .ok (.iconst (-1), 1) := by decide +kernel
theorem dX9_guest_61 : decode cX9_guest 61 = .ok (.ireturn, 1) := by decide +kernel
theorem dX9_whyNot_0 : decode cX9_whyNot 0 = .ok (.iload_n 1, 1) := by decide +kernel
theorem dX9_whyNot_1 : decode cX9_whyNot 1 = .ok (.invokestatic 127, 3) := by decide +kernel
theorem dX9_whyNot_4 : decode cX9_whyNot 4 = .ok (.ifCond .eq 11, 3) := by decide +kernel
theorem dX9_whyNot_7 : decode cX9_whyNot 7 = .ok (.aload_n 0, 1) := by decide +kernel
theorem dX9_whyNot_8 : decode cX9_whyNot 8 = .ok (.iload_n 1, 1) := by decide +kernel
theorem dX9_whyNot_9 : decode cX9_whyNot 9 = .ok (.invokevirtual 100, 3) := by decide +kernel
theorem dX9_whyNot_12 : decode cX9_whyNot 12 = .ok (.goto 4, 3) := by decide +kernel
theorem dX9_whyNot_15 : decode cX9_whyNot 15 = .ok (.iconst (-1), 1) := by decide +kernel
theorem dX9_whyNot_16 : decode cX9_whyNot 16 = .ok (.ireturn, 1) := by decide +kernel
theorem dX9_canBe_0 : decode cX9_canBe 0 = .ok (.iconst 1, 1) := by decide +kernel
theorem dX9_canBe_1 : decode cX9_canBe 1 = .ok (.istore_n 2, 1) := by decide +kernel
theorem dX9_canBe_2 : decode cX9_canBe 2 = .ok (.iconst 0, 1) := by decide +kernel
theorem dX9_canBe_3 : decode cX9_canBe 3 = .ok (.istore_n 3, 1) := by decide +kernel
theorem dX9_canBe_4 : decode cX9_canBe 4 = .ok (.iload_n 3, 1) := by decide +kernel
theorem dX9_canBe_5 : decode cX9_canBe 5 = .ok (.bipush 10, 2) := by decide +kernel
theorem dX9_canBe_7 : decode cX9_canBe 7 = .ok (.if_icmp .ge 58, 3) := by decide +kernel
theorem dX9_canBe_10 : decode cX9_canBe 10 = .ok (.iconst 0, 1) := by decide +kernel
theorem dX9_canBe_11 : decode cX9_canBe 11 = .ok (.istore 4, 2) := by decide +kernel
theorem dX9_canBe_13 : decode cX9_canBe 13 = .ok (.iload 4, 2) := by decide +kernel
theorem dX9_canBe_15 : decode cX9_canBe 15 = .ok (.bipush 10, 2) := by decide +kernel
theorem dX9_canBe_17 : decode cX9_canBe 17 = .ok (.if_icmp .ge 42, 3) := by decide +kernel
theorem dX9_canBe_20 : decode cX9_canBe 20 = .ok (.iload_n 2, 1) := by decide +kernel
theorem dX9_canBe_21 : decode cX9_canBe 21 = .ok (.ifCond .eq 30, 3) := by decide +kernel
theorem dX9_canBe_24 : decode cX9_canBe 24 = .ok (.iload_n 1, 1) := by decide +kernel
theorem dX9_canBe_25 : decode cX9_canBe 25 = .ok (.iload_n 3, 1) := by decide +kernel
theorem dX9_canBe_26 : decode cX9_canBe 26 = .ok (.ishr, 1) := by decide +kernel
theorem dX9_canBe_27 : decode cX9_canBe 27 = .ok (.iload_n 1, 1) := by decide +kernel
theorem dX9_canBe_28 : decode cX9_canBe 28 = .ok (.iload 4, 2) := by decide +kernel
theorem dX9_canBe_30 : decode cX9_canBe 30 = .ok (.ishr, 1) := by decide +kernel
theorem dX9_canBe_31 : decode cX9_canBe 31 = .ok (.iand, 1) := by decide +kernel
theorem dX9_canBe_32 : decode cX9_canBe 32 = .ok (.iconst 1, 1) := by decide +kernel
theorem dX9_canBe_33 : decode cX9_canBe 33 = .ok (.iand, 1) := by decide +kernel
theorem dX9_canBe_34 : decode cX9_canBe 34 = .ok (.ifCond .eq 13, 3) := by decide +kernel
theorem dX9_canBe_37 : decode cX9_canBe 37 = .ok (.aload_n 0, 1) := by decide +kernel
theorem dX9_canBe_38 : decode cX9_canBe 38 = .ok (.iload_n 3, 1) := by decide +kernel
theorem dX9_canBe_39 : decode cX9_canBe 39 = .ok (.iload 4, 2) := by decide +kernel
theorem dX9_canBe_41 : decode cX9_canBe 41 = .ok (.invokevirtual 74, 3) := by decide +kernel
theorem dX9_canBe_44 : decode cX9_canBe 44 = .ok (.ifCond .ne 7, 3) := by decide +kernel
theorem dX9_canBe_47 : decode cX9_canBe 47 = .ok (.iconst 1, 1) := by decide +kernel
theorem dX9_canBe_48 : decode cX9_canBe 48 = .ok (.goto 4, 3) := by decide +kernel
theorem dX9_canBe_51 : decode cX9_canBe 51 = .ok (.iconst 0, 1) := by decide +kernel
theorem dX9_canBe_52 : decode cX9_canBe 52 = .ok (.istore_n 2, 1) := by decide +kernel
theorem dX9_canBe_53 : decode cX9_canBe 53 = .ok (.iinc 4 1, 3) := by decide +kernel
theorem dX9_canBe_56 : decode cX9_canBe 56 = .ok (.goto (-43), 3) := by decide +kernel
theorem dX9_canBe_59 : decode cX9_canBe 59 = .ok (.iinc 3 1, 3) := by decide +kernel
theorem dX9_canBe_62 : decode cX9_canBe 62 = .ok (.goto (-58), 3) := by decide +kernel
theorem dX9_canBe_65 : decode cX9_canBe 65 = .ok (.iconst 0, 1) := by decide +kernel
theorem dX9_canBe_66 : decode cX9_canBe 66 = .ok (.istore_n 3, 1) := by decide +kernel
theorem dX9_canBe_67 : decode cX9_canBe 67 = .ok (.iload_n 3, 1) := by decide +kernel
theorem dX9_canBe_68 : decode cX9_canBe 68 = .ok (.bipush 6, 2) := by decide +kernel
theorem dX9_canBe_70 : decode cX9_canBe 70 = .ok (.if_icmp .ge 79, 3) := by decide +kernel
theorem dX9_canBe_73 : decode cX9_canBe 73 = .ok (.iconst 0, 1) := by decide +kernel
theorem dX9_canBe_74 : decode cX9_canBe 74 = .ok (.istore 4, 2) := by decide +kernel
theorem dX9_canBe_76 : decode cX9_canBe 76 = .ok (.iconst 0, 1) := by decide +kernel
theorem dX9_canBe_77 : decode cX9_canBe 77 = .ok (.istore 5, 2) := by decide +kernel
theorem dX9_canBe_79 : decode cX9_canBe 79 = .ok (.iload 5, 2) := by decide +kernel
theorem dX9_canBe_81 : decode cX9_canBe 81 = .ok (.bipush 10, 2) := by decide +kernel
theorem dX9_canBe_83 : decode cX9_canBe 83 = .ok (.if_icmp .ge 39, 3) := by decide +kernel
theorem dX9_canBe_86 : decode cX9_canBe 86 = .ok (.iload 4, 2) := by decide +kernel
theorem dX9_canBe_88 : decode cX9_canBe 88 = .ok (.iload_n 1, 1) := by decide +kernel
theorem dX9_canBe_89 : decode cX9_canBe 89 = .ok (.iload 5, 2) := by decide +kernel
theorem dX9_canBe_91 : decode cX9_canBe 91 = .ok (.ishr, 1) := by decide +kernel
theorem dX9_canBe_92 : decode cX9_canBe 92 = .ok (.iconst 1, 1) := by decide +kernel
theorem dX9_canBe_93 : decode cX9_canBe 93 = .ok (.iand, 1) := by decide +kernel
theorem dX9_canBe_94 : decode cX9_canBe 94 = .ok (.iconst 1, 1) := by decide +kernel
theorem dX9_canBe_95 : decode cX9_canBe 95 = .ok (.if_icmp .ne 17, 3) := by decide +kernel
theorem dX9_canBe_98 : decode cX9_canBe 98 = .ok (.aload_n 0, 1) := by decide +kernel
theorem dX9_canBe_99 : decode cX9_canBe 99 = .ok (.iload 5, 2) := by decide +kernel
theorem dX9_canBe_101 : decode cX9_canBe 101 = .ok (.iload_n 3, 1) := by decide +kernel
theorem dX9_canBe_102 : decode cX9_canBe 102 = .ok (.invokevirtual 86, 3) := by decide +kernel
theorem dX9_canBe_105 : decode cX9_canBe 105 = .ok (.ifCond .eq 7, 3) := by decide +kernel
theorem dX9_canBe_108 : decode cX9_canBe 108 = .ok (.iconst 1, 1) := by decide +kernel
theorem dX9_canBe_109 : decode cX9_canBe 109 = .ok (.goto 4, 3) := by decide +kernel
theorem dX9_canBe_112 : decode cX9_canBe 112 = .ok (.iconst 0, 1) := by decide +kernel
theorem dX9_canBe_113 : decode cX9_canBe 113 = .ok (.iadd, 1) := by decide +kernel
theorem dX9_canBe_114 : decode cX9_canBe 114 = .ok (.istore 4, 2) := by decide +kernel
theorem dX9_canBe_116 : decode cX9_canBe 116 = .ok (.iinc 5 1, 3) := by decide +kernel
theorem dX9_canBe_119 : decode cX9_canBe 119 = .ok (.goto (-40), 3) := by decide +kernel
theorem dX9_canBe_122 : decode cX9_canBe 122 = .ok (.iload_n 2, 1) := by decide +kernel
theorem dX9_canBe_123 : decode cX9_canBe 123 = .ok (.ifCond .eq 18, 3) := by decide +kernel
theorem dX9_canBe_126 : decode cX9_canBe 126 = .ok (.iload 4, 2) := by decide +kernel
theorem dX9_canBe_128 : decode cX9_canBe 128 = .ok (.aload_n 0, 1) := by decide +kernel
theorem dX9_canBe_129 : decode cX9_canBe 129 = .ok (.getfield 7, 3) := by decide +kernel
theorem dX9_canBe_132 : decode cX9_canBe 132 = .ok (.iconst 0, 1) := by decide +kernel
theorem dX9_canBe_133 : decode cX9_canBe 133 = .ok (.iaload, 1) := by decide +kernel
theorem dX9_canBe_134 : decode cX9_canBe 134 = .ok (.if_icmp .gt 7, 3) := by decide +kernel
theorem dX9_canBe_137 : decode cX9_canBe 137 = .ok (.iconst 1, 1) := by decide +kernel
theorem dX9_canBe_138 : decode cX9_canBe 138 = .ok (.goto 4, 3) := by decide +kernel
theorem dX9_canBe_141 : decode cX9_canBe 141 = .ok (.iconst 0, 1) := by decide +kernel
theorem dX9_canBe_142 : decode cX9_canBe 142 = .ok (.istore_n 2, 1) := by decide +kernel
theorem dX9_canBe_143 : decode cX9_canBe 143 = .ok (.iinc 3 1, 3) := by decide +kernel
theorem dX9_canBe_146 : decode cX9_canBe 146 = .ok (.goto (-79), 3) := by decide +kernel
theorem dX9_canBe_149 : decode cX9_canBe 149 = .ok (.iload_n 2, 1) := by decide +kernel
theorem dX9_canBe_150 : decode cX9_canBe 150 = .ok (.ireturn, 1) := by decide +kernel
theorem dX9_can_0 : decode cX9_can 0 = .ok (.iload_n 1, 1) := by decide +kernel
theorem dX9_can_1 : decode cX9_can 1 = .ok (.iconst 0, 1) := by decide +kernel
theorem dX9_can_2 : decode cX9_can 2 = .ok (.sipush 1023, 3) := by decide +kernel
theorem dX9_can_5 : decode cX9_can 5 = .ok (.invokestatic 48, 3) := by decide +kernel
theorem dX9_can_8 : decode cX9_can 8 = .ok (.ifCond .ne 7, 3) := by decide +kernel
theorem dX9_can_11 : decode cX9_can 11 = .ok (.iconst (-1), 1) := by decide +kernel
theorem dX9_can_12 : decode cX9_can 12 = .ok (.goto 16, 3) := by decide +kernel
theorem dX9_can_15 : decode cX9_can 15 = .ok (.aload_n 0, 1) := by decide +kernel
theorem dX9_can_16 : decode cX9_can 16 = .ok (.iload_n 1, 1) := by decide +kernel
theorem dX9_can_17 : decode cX9_can 17 = .ok (.invokevirtual 194, 3) := by decide +kernel
theorem dX9_can_20 : decode cX9_can 20 = .ok (.ifCond .eq 7, 3) := by decide +kernel
theorem dX9_can_23 : decode cX9_can 23 = .ok (.iconst 1, 1) := by decide +kernel
theorem dX9_can_24 : decode cX9_can 24 = .ok (.goto 4, 3) := by decide +kernel
theorem dX9_can_27 : decode cX9_can 27 = .ok (.iconst 0, 1) := by decide +kernel
theorem dX9_can_28 : decode cX9_can 28 = .ok (.ireturn, 1) := by decide +kernel
theorem dX9_together_0 : decode cX9_together 0 = .ok (.iload_n 1, 1) := by decide +kernel
theorem dX9_together_1 : decode cX9_together 1 = .ok (.iconst 0, 1) := by decide +kernel
theorem dX9_together_2 : decode cX9_together 2 = .ok (.iconst 1, 1) := by decide +kernel
theorem dX9_together_3 : decode cX9_together 3 = .ok (.invokestatic 48, 3) := by decide +kernel
theorem dX9_together_6 : decode cX9_together 6 = .ok (.ifCond .ne 5, 3) := by decide +kernel
theorem dX9_together_9 : decode cX9_together 9 = .ok (.iconst (-1), 1) := by decide +kernel
theorem dX9_together_10 : decode cX9_together 10 = .ok (.ireturn, 1) := by decide +kernel
theorem dX9_together_11 : decode cX9_together 11 = .ok (.iconst 0, 1) := by decide +kernel
theorem dX9_together_12 : decode cX9_together 12 = .ok (.istore_n 2, 1) := by decide +kernel
theorem dX9_together_13 : decode cX9_together 13 = .ok (.iconst 0, 1) := by decide +kernel
theorem dX9_together_14 : decode cX9_together 14 = .ok (.istore_n 3, 1) := by decide +kernel
theorem dX9_together_15 : decode cX9_together 15 = .ok (.iload_n 3, 1) := by decide +kernel
theorem dX9_together_16 : decode cX9_together 16 = .ok (.sipush 1024, 3) := by decide +kernel
theorem dX9_together_19 : decode cX9_together 19 = .ok (.if_icmp .ge 34, 3) := by decide +kernel
theorem dX9_together_22 : decode cX9_together 22 = .ok (.iload_n 3, 1) := by decide +kernel
theorem dX9_together_23 : decode cX9_together 23 = .ok (.invokestatic 188, 3) := by decide +kernel
theorem dX9_together_26 : decode cX9_together 26 = .ok (.iload_n 2, 1) := by decide +kernel
theorem dX9_together_27 : decode cX9_together 27 = .ok (.if_icmp .le 18, 3) := by decide +kernel
theorem dX9_together_30 : decode cX9_together 30 = .ok (.aload_n 0, 1) := by decide +kernel
theorem dX9_together_31 : decode cX9_together 31 = .ok (.iload_n 3, 1) := by decide +kernel
theorem dX9_together_32 : decode cX9_together 32 = .ok (.invokevirtual 194, 3) := by decide +kernel
theorem dX9_together_35 : decode cX9_together 35 = .ok (.ifCond .eq 10, 3) := by decide +kernel
theorem dX9_together_38 : decode cX9_together 38 = .ok (.iload_n 3, 1) := by decide +kernel
theorem dX9_together_39 : decode cX9_together 39 = .ok (.invokestatic 188, 3) := by decide +kernel
theorem dX9_together_42 : decode cX9_together 42 = .ok (.goto 4, 3) := by decide +kernel
theorem dX9_together_45 : decode cX9_together 45 = .ok (.iload_n 2, 1) := by decide +kernel
theorem dX9_together_46 : decode cX9_together 46 = .ok (.istore_n 2, 1) := by decide +kernel
theorem dX9_together_47 : decode cX9_together 47 = .ok (.iinc 3 1, 3) := by decide +kernel
theorem dX9_together_50 : decode cX9_together 50 = .ok (.goto (-35), 3) := by decide +kernel
theorem dX9_together_53 : decode cX9_together 53 = .ok (.iload_n 2, 1) := by decide +kernel
theorem dX9_together_54 : decode cX9_together 54 = .ok (.ireturn, 1) := by decide +kernel
theorem dX9_laySet_0 : decode cX9_laySet 0 = .ok (.iconst 0, 1) := by decide +kernel
theorem dX9_laySet_1 : decode cX9_laySet 1 = .ok (.istore_n 2, 1) := by decide +kernel
theorem dX9_laySet_2 : decode cX9_laySet 2 = .ok (.iload_n 2, 1) := by decide +kernel
theorem dX9_laySet_3 : decode cX9_laySet 3 = .ok (.bipush 10, 2) := by decide +kernel
theorem dX9_laySet_5 : decode cX9_laySet 5 = .ok (.if_icmp .ge 20, 3) := by decide +kernel
theorem dX9_laySet_8 : decode cX9_laySet 8 = .ok (.aload_n 0, 1) := by decide +kernel
theorem dX9_laySet_9 : decode cX9_laySet 9 = .ok (.iload_n 2, 1) := by decide +kernel
theorem dX9_laySet_10 : decode cX9_laySet 10 = .ok (.iconst 0, 1) := by decide +kernel
theorem dX9_laySet_11 : decode cX9_laySet 11 = .ok (.iload_n 1, 1) := by decide +kernel
theorem dX9_laySet_12 : decode cX9_laySet 12 = .ok (.iload_n 2, 1) := by decide +kernel
theorem dX9_laySet_13 : decode cX9_laySet 13 = .ok (.ishr, 1) := by decide +kernel
theorem dX9_laySet_14 : decode cX9_laySet 14 = .ok (.iconst 1, 1) := by decide +kernel
theorem dX9_laySet_15 : decode cX9_laySet 15 = .ok (.iand, 1) := by decide +kernel
theorem dX9_laySet_16 : decode cX9_laySet 16 = .ok (.invokevirtual 44, 3) := by decide +kernel
theorem dX9_laySet_19 : decode cX9_laySet 19 = .ok (.iinc 2 1, 3) := by decide +kernel
theorem dX9_laySet_22 : decode cX9_laySet 22 = .ok (.goto (-20), 3) := by decide +kernel
theorem dX9_laySet_25 : decode cX9_laySet 25 = .ok (.return_, 1) := by decide +kernel
theorem dX9_reach_0 : decode cX9_reach 0 = .ok (.aload_n 0, 1) := by decide +kernel
theorem dX9_reach_1 : decode cX9_reach 1 = .ok (.getfield 38, 3) := by decide +kernel
theorem dX9_reach_4 : decode cX9_reach 4 = .ok (.iload_n 1, 1) := by decide +kernel
theorem dX9_reach_5 : decode cX9_reach 5 = .ok (.iaload, 1) := by decide +kernel
theorem dX9_reach_6 : decode cX9_reach 6 = .ok (.bipush (-4), 2) := by decide +kernel
theorem dX9_reach_8 : decode cX9_reach 8 = .ok (.if_icmp .ne 30, 3) := by decide +kernel
theorem dX9_reach_11 : decode cX9_reach 11 = .ok (.aload_n 0, 1) := by decide +kernel
theorem dX9_reach_12 : decode cX9_reach 12 = .ok (.getfield 38, 3) := by decide +kernel
theorem dX9_reach_15 : decode cX9_reach 15 = .ok (.iload_n 1, 1) := by decide +kernel
theorem dX9_reach_16 : decode cX9_reach 16 = .ok (.iload_n 2, 1) := by decide +kernel
theorem dX9_reach_17 : decode cX9_reach 17 = .ok (.iastore, 1) := by decide +kernel
theorem dX9_reach_18 : decode cX9_reach 18 = .ok (.aload_n 0, 1) := by decide +kernel
theorem dX9_reach_19 : decode cX9_reach 19 = .ok (.getfield 41, 3) := by decide +kernel
theorem dX9_reach_22 : decode cX9_reach 22 = .ok (.aload_n 0, 1) := by decide +kernel
theorem dX9_reach_23 : decode cX9_reach 23 = .ok (.getfield 197, 3) := by decide +kernel
theorem dX9_reach_26 : decode cX9_reach 26 = .ok (.iload_n 1, 1) := by decide +kernel
theorem dX9_reach_27 : decode cX9_reach 27 = .ok (.iastore, 1) := by decide +kernel
theorem dX9_reach_28 : decode cX9_reach 28 = .ok (.aload_n 0, 1) := by decide +kernel
theorem dX9_reach_29 : decode cX9_reach 29 = .ok (.dup, 1) := by decide +kernel
theorem dX9_reach_30 : decode cX9_reach 30 = .ok (.getfield 197, 3) := by decide +kernel
theorem dX9_reach_33 : decode cX9_reach 33 = .ok (.iconst 1, 1) := by decide +kernel
theorem dX9_reach_34 : decode cX9_reach 34 = .ok (.iadd, 1) := by decide +kernel
theorem dX9_reach_35 : decode cX9_reach 35 = .ok (.putfield 197, 3) := by decide +kernel
theorem dX9_reach_38 : decode cX9_reach 38 = .ok (.return_, 1) := by decide +kernel
theorem dX9_goOn_0 : decode cX9_goOn 0 = .ok (.iload_n 2, 1) := by decide +kernel
theorem dX9_goOn_1 : decode cX9_goOn 1 = .ok (.sipush 1024, 3) := by decide +kernel
theorem dX9_goOn_4 : decode cX9_goOn 4 = .ok (.idiv, 1) := by decide +kernel
theorem dX9_goOn_5 : decode cX9_goOn 5 = .ok (.istore_n 3, 1) := by decide +kernel
theorem dX9_goOn_6 : decode cX9_goOn 6 = .ok (.iload_n 2, 1) := by decide +kernel
theorem dX9_goOn_7 : decode cX9_goOn 7 = .ok (.sipush 1024, 3) := by decide +kernel
theorem dX9_goOn_10 : decode cX9_goOn 10 = .ok (.irem, 1) := by decide +kernel
theorem dX9_goOn_11 : decode cX9_goOn 11 = .ok (.istore 4, 2) := by decide +kernel
theorem dX9_goOn_13 : decode cX9_goOn 13 = .ok (.iconst 0, 1) := by decide +kernel
theorem dX9_goOn_14 : decode cX9_goOn 14 = .ok (.istore 5, 2) := by decide +kernel
theorem dX9_goOn_16 : decode cX9_goOn 16 = .ok (.iload 5, 2) := by decide +kernel
theorem dX9_goOn_18 : decode cX9_goOn 18 = .ok (.bipush 10, 2) := by decide +kernel
theorem dX9_goOn_20 : decode cX9_goOn 20 = .ok (.if_icmp .ge 139, 3) := by decide +kernel
theorem dX9_goOn_23 : decode cX9_goOn 23 = .ok (.aload_n 0, 1) := by decide +kernel
theorem dX9_goOn_24 : decode cX9_goOn 24 = .ok (.iload 4, 2) := by decide +kernel
theorem dX9_goOn_26 : decode cX9_goOn 26 = .ok (.invokevirtual 200, 3) := by decide +kernel
theorem dX9_goOn_29 : decode cX9_goOn 29 = .ok (.aload_n 0, 1) := by decide +kernel
theorem dX9_goOn_30 : decode cX9_goOn 30 = .ok (.iload 5, 2) := by decide +kernel
theorem dX9_goOn_32 : decode cX9_goOn 32 = .ok (.iload_n 3, 1) := by decide +kernel
theorem dX9_goOn_33 : decode cX9_goOn 33 = .ok (.invokevirtual 86, 3) := by decide +kernel
theorem dX9_goOn_36 : decode cX9_goOn 36 = .ok (.ifCond .eq 59, 3) := by decide +kernel
theorem dX9_goOn_39 : decode cX9_goOn 39 = .ok (.aload_n 0, 1) := by decide +kernel
theorem dX9_goOn_40 : decode cX9_goOn 40 = .ok (.iload 5, 2) := by decide +kernel
theorem dX9_goOn_42 : decode cX9_goOn 42 = .ok (.invokevirtual 78, 3) := by decide +kernel
theorem dX9_goOn_45 : decode cX9_goOn 45 = .ok (.ifCond .eq 50, 3) := by decide +kernel
theorem dX9_goOn_48 : decode cX9_goOn 48 = .ok (.aload_n 0, 1) := by decide +kernel
theorem dX9_goOn_49 : decode cX9_goOn 49 = .ok (.sipush 1024, 3) := by decide +kernel
theorem dX9_goOn_52 : decode cX9_goOn 52 = .ok (.aload_n 0, 1) := by decide +kernel
theorem dX9_goOn_53 : decode cX9_goOn 53 = .ok (.iload 5, 2) := by decide +kernel
theorem dX9_goOn_55 : decode cX9_goOn 55 = .ok (.iload_n 3, 1) := by decide +kernel
theorem dX9_goOn_56 : decode cX9_goOn 56 = .ok (.invokevirtual 124, 3) := by decide +kernel
theorem dX9_goOn_59 : decode cX9_goOn 59 = .ok (.imul, 1) := by decide +kernel
theorem dX9_goOn_60 : decode cX9_goOn 60 = .ok (.iload 4, 2) := by decide +kernel
theorem dX9_goOn_62 : decode cX9_goOn 62 = .ok (.iadd, 1) := by decide +kernel
theorem dX9_goOn_63 : decode cX9_goOn 63 = .ok (.aload_n 0, 1) := by decide +kernel
theorem dX9_goOn_64 : decode cX9_goOn 64 = .ok (.getfield 38, 3) := by decide +kernel
theorem dX9_goOn_67 : decode cX9_goOn 67 = .ok (.iload_n 2, 1) := by decide +kernel
theorem dX9_goOn_68 : decode cX9_goOn 68 = .ok (.iaload, 1) := by decide +kernel
theorem dX9_goOn_69 : decode cX9_goOn 69 = .ok (.iconst 1, 1) := by decide +kernel
theorem dX9_goOn_70 : decode cX9_goOn 70 = .ok (.iadd, 1) := by decide +kernel
theorem dX9_goOn_71 : decode cX9_goOn 71 = .ok (.invokevirtual 204, 3) := by decide +kernel
theorem dX9_goOn_74 : decode cX9_goOn 74 = .ok (.aload_n 0, 1) := by decide +kernel
theorem dX9_goOn_75 : decode cX9_goOn 75 = .ok (.iload_n 2, 1) := by decide +kernel
theorem dX9_goOn_76 : decode cX9_goOn 76 = .ok (.iconst 1, 1) := by decide +kernel
theorem dX9_goOn_77 : decode cX9_goOn 77 = .ok (.iload 5, 2) := by decide +kernel
theorem dX9_goOn_79 : decode cX9_goOn 79 = .ok (.ishl, 1) := by decide +kernel
theorem dX9_goOn_80 : decode cX9_goOn 80 = .ok (.isub, 1) := by decide +kernel
theorem dX9_goOn_81 : decode cX9_goOn 81 = .ok (.aload_n 0, 1) := by decide +kernel
theorem dX9_goOn_82 : decode cX9_goOn 82 = .ok (.getfield 38, 3) := by decide +kernel
theorem dX9_goOn_85 : decode cX9_goOn 85 = .ok (.iload_n 2, 1) := by decide +kernel
theorem dX9_goOn_86 : decode cX9_goOn 86 = .ok (.iaload, 1) := by decide +kernel
theorem dX9_goOn_87 : decode cX9_goOn 87 = .ok (.iconst 1, 1) := by decide +kernel
theorem dX9_goOn_88 : decode cX9_goOn 88 = .ok (.iadd, 1) := by decide +kernel
theorem dX9_goOn_89 : decode cX9_goOn 89 = .ok (.invokevirtual 204, 3) := by decide +kernel
theorem dX9_goOn_92 : decode cX9_goOn 92 = .ok (.goto 61, 3) := by decide +kernel
theorem dX9_goOn_95 : decode cX9_goOn 95 = .ok (.aload_n 0, 1) := by decide +kernel
theorem dX9_goOn_96 : decode cX9_goOn 96 = .ok (.iload 5, 2) := by decide +kernel
theorem dX9_goOn_98 : decode cX9_goOn 98 = .ok (.iload_n 3, 1) := by decide +kernel
theorem dX9_goOn_99 : decode cX9_goOn 99 = .ok (.invokevirtual 86, 3) := by decide +kernel
theorem dX9_goOn_102 : decode cX9_goOn 102 = .ok (.ifCond .eq 51, 3) := by decide +kernel
theorem dX9_goOn_105 : decode cX9_goOn 105 = .ok (.aload_n 0, 1) := by decide +kernel
theorem dX9_goOn_106 : decode cX9_goOn 106 = .ok (.iload_n 1, 1) := by decide +kernel
theorem dX9_goOn_107 : decode cX9_goOn 107 = .ok (.iload 5, 2) := by decide +kernel
theorem dX9_goOn_109 : decode cX9_goOn 109 = .ok (.invokevirtual 115, 3) := by decide +kernel
theorem dX9_goOn_112 : decode cX9_goOn 112 = .ok (.ifCond .eq 41, 3) := by decide +kernel
theorem dX9_goOn_115 : decode cX9_goOn 115 = .ok (.aload_n 0, 1) := by decide +kernel
theorem dX9_goOn_116 : decode cX9_goOn 116 = .ok (.iload 5, 2) := by decide +kernel
theorem dX9_goOn_118 : decode cX9_goOn 118 = .ok (.invokevirtual 100, 3) := by decide +kernel
theorem dX9_goOn_121 : decode cX9_goOn 121 = .ok (.ifCond .ne 32, 3) := by decide +kernel
theorem dX9_goOn_124 : decode cX9_goOn 124 = .ok (.aload_n 0, 1) := by decide +kernel
theorem dX9_goOn_125 : decode cX9_goOn 125 = .ok (.iload 5, 2) := by decide +kernel
theorem dX9_goOn_127 : decode cX9_goOn 127 = .ok (.invokevirtual 106, 3) := by decide +kernel
theorem dX9_goOn_130 : decode cX9_goOn 130 = .ok (.pop, 1) := by decide +kernel
theorem dX9_goOn_131 : decode cX9_goOn 131 = .ok (.aload_n 0, 1) := by decide +kernel
theorem dX9_goOn_132 : decode cX9_goOn 132 = .ok (.sipush 1024, 3) := by decide +kernel
theorem dX9_goOn_135 : decode cX9_goOn 135 = .ok (.iload_n 3, 1) := by decide +kernel
theorem dX9_goOn_136 : decode cX9_goOn 136 = .ok (.imul, 1) := by decide +kernel
theorem dX9_goOn_137 : decode cX9_goOn 137 = .ok (.aload_n 0, 1) := by decide +kernel
theorem dX9_goOn_138 : decode cX9_goOn 138 = .ok (.invokevirtual 67, 3) := by decide +kernel
theorem dX9_goOn_141 : decode cX9_goOn 141 = .ok (.iadd, 1) := by decide +kernel
theorem dX9_goOn_142 : decode cX9_goOn 142 = .ok (.aload_n 0, 1) := by decide +kernel
theorem dX9_goOn_143 : decode cX9_goOn 143 = .ok (.getfield 38, 3) := by decide +kernel
theorem dX9_goOn_146 : decode cX9_goOn 146 = .ok (.iload_n 2, 1) := by decide +kernel
theorem dX9_goOn_147 : decode cX9_goOn 147 = .ok (.iaload, 1) := by decide +kernel
theorem dX9_goOn_148 : decode cX9_goOn 148 = .ok (.iconst 1, 1) := by decide +kernel
theorem dX9_goOn_149 : decode cX9_goOn 149 = .ok (.iadd, 1) := by decide +kernel
theorem dX9_goOn_150 : decode cX9_goOn 150 = .ok (.invokevirtual 204, 3) := by decide +kernel
theorem dX9_goOn_153 : decode cX9_goOn 153 = .ok (.iinc 5 1, 3) := by decide +kernel
theorem dX9_goOn_156 : decode cX9_goOn 156 = .ok (.goto (-140), 3) := by decide +kernel
theorem dX9_goOn_159 : decode cX9_goOn 159 = .ok (.return_, 1) := by decide +kernel
theorem dX9_deeds_0 : decode cX9_deeds 0 = .ok (.iload_n 1, 1) := by decide +kernel
theorem dX9_deeds_1 : decode cX9_deeds 1 = .ok (.invokestatic 130, 3) := by decide +kernel
theorem dX9_deeds_4 : decode cX9_deeds 4 = .ok (.ifCond .eq 19, 3) := by decide +kernel
theorem dX9_deeds_7 : decode cX9_deeds 7 = .ok (.iload_n 2, 1) := by decide +kernel
theorem dX9_deeds_8 : decode cX9_deeds 8 = .ok (.invokestatic 145, 3) := by decide +kernel
theorem dX9_deeds_11 : decode cX9_deeds 11 = .ok (.ifCond .eq 12, 3) := by decide +kernel
theorem dX9_deeds_14 : decode cX9_deeds 14 = .ok (.iload_n 3, 1) := by decide +kernel
theorem dX9_deeds_15 : decode cX9_deeds 15 = .ok (.iconst 0, 1) := by decide +kernel
theorem dX9_deeds_16 : decode cX9_deeds 16 = .ok (.iconst 1, 1) := by decide +kernel
theorem dX9_deeds_17 : decode cX9_deeds 17 = .ok (.invokestatic 48, 3) := by decide +kernel
theorem dX9_deeds_20 : decode cX9_deeds 20 = .ok (.ifCond .ne 5, 3) := by decide +kernel
theorem dX9_deeds_23 : decode cX9_deeds 23 = .ok (.iconst (-1), 1) := by decide +kernel
theorem dX9_deeds_24 : decode cX9_deeds 24 = .ok (.ireturn, 1) := by decide +kernel
theorem dX9_deeds_25 : decode cX9_deeds 25 = .ok (.aload_n 0, 1) := by decide +kernel
theorem dX9_deeds_26 : decode cX9_deeds 26 = .ok (.getfield 7, 3) := by decide +kernel
theorem dX9_deeds_29 : decode cX9_deeds 29 = .ok (.iconst 0, 1) := by decide +kernel
theorem dX9_deeds_30 : decode cX9_deeds 30 = .ok (.aload_n 0, 1) := by decide +kernel
theorem dX9_deeds_31 : decode cX9_deeds 31 = .ok (.getfield 13, 3) := by decide +kernel
theorem dX9_deeds_34 : decode cX9_deeds 34 = .ok (.iconst 0, 1) := by decide +kernel
theorem dX9_deeds_35 : decode cX9_deeds 35 = .ok (.invokestatic 59, 3) := by decide +kernel
theorem dX9_deeds_38 : decode cX9_deeds 38 = .ok (.iconst 0, 1) := by decide +kernel
theorem dX9_deeds_39 : decode cX9_deeds 39 = .ok (.istore 4, 2) := by decide +kernel
theorem dX9_deeds_41 : decode cX9_deeds 41 = .ok (.iload 4, 2) := by decide +kernel
theorem dX9_deeds_43 : decode cX9_deeds 43 = .ok (.sipush 6144, 3) := by decide +kernel
theorem dX9_deeds_46 : decode cX9_deeds 46 = .ok (.if_icmp .ge 18, 3) := by decide +kernel
theorem dX9_deeds_49 : decode cX9_deeds 49 = .ok (.aload_n 0, 1) := by decide +kernel
theorem dX9_deeds_50 : decode cX9_deeds 50 = .ok (.getfield 38, 3) := by decide +kernel
theorem dX9_deeds_53 : decode cX9_deeds 53 = .ok (.iload 4, 2) := by decide +kernel
theorem dX9_deeds_55 : decode cX9_deeds 55 = .ok (.bipush (-4), 2) := by decide +kernel
theorem dX9_deeds_57 : decode cX9_deeds 57 = .ok (.iastore, 1) := by decide +kernel
theorem dX9_deeds_58 : decode cX9_deeds 58 = .ok (.iinc 4 1, 3) := by decide +kernel
theorem dX9_deeds_61 : decode cX9_deeds 61 = .ok (.goto (-20), 3) := by decide +kernel
theorem dX9_deeds_64 : decode cX9_deeds 64 = .ok (.aload_n 0, 1) := by decide +kernel
theorem dX9_deeds_65 : decode cX9_deeds 65 = .ok (.iconst 0, 1) := by decide +kernel
theorem dX9_deeds_66 : decode cX9_deeds 66 = .ok (.putfield 197, 3) := by decide +kernel
theorem dX9_deeds_69 : decode cX9_deeds 69 = .ok (.aload_n 0, 1) := by decide +kernel
theorem dX9_deeds_70 : decode cX9_deeds 70 = .ok (.sipush 1024, 3) := by decide +kernel
theorem dX9_deeds_73 : decode cX9_deeds 73 = .ok (.aload_n 0, 1) := by decide +kernel
theorem dX9_deeds_74 : decode cX9_deeds 74 = .ok (.iload_n 1, 1) := by decide +kernel
theorem dX9_deeds_75 : decode cX9_deeds 75 = .ok (.iconst 0, 1) := by decide +kernel
theorem dX9_deeds_76 : decode cX9_deeds 76 = .ok (.invokevirtual 109, 3) := by decide +kernel
theorem dX9_deeds_79 : decode cX9_deeds 79 = .ok (.imul, 1) := by decide +kernel
theorem dX9_deeds_80 : decode cX9_deeds 80 = .ok (.aload_n 0, 1) := by decide +kernel
theorem dX9_deeds_81 : decode cX9_deeds 81 = .ok (.invokevirtual 67, 3) := by decide +kernel
theorem dX9_deeds_84 : decode cX9_deeds 84 = .ok (.iadd, 1) := by decide +kernel
theorem dX9_deeds_85 : decode cX9_deeds 85 = .ok (.iconst 0, 1) := by decide +kernel
theorem dX9_deeds_86 : decode cX9_deeds 86 = .ok (.invokevirtual 204, 3) := by decide +kernel
theorem dX9_deeds_89 : decode cX9_deeds 89 = .ok (.bipush (-4), 2) := by decide +kernel
theorem dX9_deeds_91 : decode cX9_deeds 91 = .ok (.istore 4, 2) := by decide +kernel
theorem dX9_deeds_93 : decode cX9_deeds 93 = .ok (.iconst 0, 1) := by decide +kernel
theorem dX9_deeds_94 : decode cX9_deeds 94 = .ok (.istore 5, 2) := by decide +kernel
theorem dX9_deeds_96 : decode cX9_deeds 96 = .ok (.iload 5, 2) := by decide +kernel
theorem dX9_deeds_98 : decode cX9_deeds 98 = .ok (.aload_n 0, 1) := by decide +kernel
theorem dX9_deeds_99 : decode cX9_deeds 99 = .ok (.getfield 197, 3) := by decide +kernel
theorem dX9_deeds_102 : decode cX9_deeds 102 = .ok (.if_icmp .ge 69, 3) := by decide +kernel
theorem dX9_deeds_105 : decode cX9_deeds 105 = .ok (.iload 4, 2) := by decide +kernel
theorem dX9_deeds_107 : decode cX9_deeds 107 = .ok (.bipush (-4), 2) := by decide +kernel
theorem dX9_deeds_109 : decode cX9_deeds 109 = .ok (.if_icmp .ne 62, 3) := by decide +kernel
theorem dX9_deeds_112 : decode cX9_deeds 112 = .ok (.aload_n 0, 1) := by decide +kernel
theorem dX9_deeds_113 : decode cX9_deeds 113 = .ok (.getfield 41, 3) := by decide +kernel
theorem dX9_deeds_116 : decode cX9_deeds 116 = .ok (.iload 5, 2) := by decide +kernel
theorem dX9_deeds_118 : decode cX9_deeds 118 = .ok (.iaload, 1) := by decide +kernel
theorem dX9_deeds_119 : decode cX9_deeds 119 = .ok (.sipush 1024, 3) := by decide +kernel
theorem dX9_deeds_122 : decode cX9_deeds 122 = .ok (.idiv, 1) := by decide +kernel
theorem dX9_deeds_123 : decode cX9_deeds 123 = .ok (.iload_n 2, 1) := by decide +kernel
theorem dX9_deeds_124 : decode cX9_deeds 124 = .ok (.if_icmp .ne 18, 3) := by decide +kernel
theorem dX9_deeds_127 : decode cX9_deeds 127 = .ok (.aload_n 0, 1) := by decide +kernel
theorem dX9_deeds_128 : decode cX9_deeds 128 = .ok (.getfield 38, 3) := by decide +kernel
theorem dX9_deeds_131 : decode cX9_deeds 131 = .ok (.aload_n 0, 1) := by decide +kernel
theorem dX9_deeds_132 : decode cX9_deeds 132 = .ok (.getfield 41, 3) := by decide +kernel
theorem dX9_deeds_135 : decode cX9_deeds 135 = .ok (.iload 5, 2) := by decide +kernel
theorem dX9_deeds_137 : decode cX9_deeds 137 = .ok (.iaload, 1) := by decide +kernel
theorem dX9_deeds_138 : decode cX9_deeds 138 = .ok (.iaload, 1) := by decide +kernel
theorem dX9_deeds_139 : decode cX9_deeds 139 = .ok (.goto 5, 3) := by decide +kernel
theorem dX9_deeds_142 : decode cX9_deeds 142 = .ok (.bipush (-4), 2) := by decide +kernel
theorem dX9_deeds_144 : decode cX9_deeds 144 = .ok (.istore 4, 2) := by decide +kernel
theorem dX9_deeds_146 : decode cX9_deeds 146 = .ok (.iload 4, 2) := by decide +kernel
theorem dX9_deeds_148 : decode cX9_deeds 148 = .ok (.bipush (-4), 2) := by decide +kernel
theorem dX9_deeds_150 : decode cX9_deeds 150 = .ok (.if_icmp .ne 15, 3) := by decide +kernel
theorem dX9_deeds_153 : decode cX9_deeds 153 = .ok (.aload_n 0, 1) := by decide +kernel
theorem dX9_deeds_154 : decode cX9_deeds 154 = .ok (.iload_n 1, 1) := by decide +kernel
theorem dX9_deeds_155 : decode cX9_deeds 155 = .ok (.aload_n 0, 1) := by decide +kernel
theorem dX9_deeds_156 : decode cX9_deeds 156 = .ok (.getfield 41, 3) := by decide +kernel
theorem dX9_deeds_159 : decode cX9_deeds 159 = .ok (.iload 5, 2) := by decide +kernel
theorem dX9_deeds_161 : decode cX9_deeds 161 = .ok (.iaload, 1) := by decide +kernel
theorem dX9_deeds_162 : decode cX9_deeds 162 = .ok (.invokevirtual 207, 3) := by decide +kernel
theorem dX9_deeds_165 : decode cX9_deeds 165 = .ok (.iinc 5 1, 3) := by decide +kernel
theorem dX9_deeds_168 : decode cX9_deeds 168 = .ok (.goto (-72), 3) := by decide +kernel
theorem dX9_deeds_171 : decode cX9_deeds 171 = .ok (.aload_n 0, 1) := by decide +kernel
theorem dX9_deeds_172 : decode cX9_deeds 172 = .ok (.getfield 13, 3) := by decide +kernel
theorem dX9_deeds_175 : decode cX9_deeds 175 = .ok (.iconst 0, 1) := by decide +kernel
theorem dX9_deeds_176 : decode cX9_deeds 176 = .ok (.aload_n 0, 1) := by decide +kernel
theorem dX9_deeds_177 : decode cX9_deeds 177 = .ok (.getfield 7, 3) := by decide +kernel
theorem dX9_deeds_180 : decode cX9_deeds 180 = .ok (.iconst 0, 1) := by decide +kernel
theorem dX9_deeds_181 : decode cX9_deeds 181 = .ok (.invokestatic 59, 3) := by decide +kernel
theorem dX9_deeds_184 : decode cX9_deeds 184 = .ok (.iload 4, 2) := by decide +kernel
theorem dX9_deeds_186 : decode cX9_deeds 186 = .ok (.ireturn, 1) := by decide +kernel
theorem dX9_cords_0 : decode cX9_cords 0 = .ok (.iconst 0, 1) := by decide +kernel
theorem dX9_cords_1 : decode cX9_cords 1 = .ok (.istore_n 2, 1) := by decide +kernel
theorem dX9_cords_2 : decode cX9_cords 2 = .ok (.iconst 0, 1) := by decide +kernel
theorem dX9_cords_3 : decode cX9_cords 3 = .ok (.istore_n 3, 1) := by decide +kernel
theorem dX9_cords_4 : decode cX9_cords 4 = .ok (.iload_n 3, 1) := by decide +kernel
theorem dX9_cords_5 : decode cX9_cords 5 = .ok (.bipush 10, 2) := by decide +kernel
theorem dX9_cords_7 : decode cX9_cords 7 = .ok (.if_icmp .ge 62, 3) := by decide +kernel
theorem dX9_cords_10 : decode cX9_cords 10 = .ok (.aload_n 0, 1) := by decide +kernel
theorem dX9_cords_11 : decode cX9_cords 11 = .ok (.iload_n 3, 1) := by decide +kernel
theorem dX9_cords_12 : decode cX9_cords 12 = .ok (.iconst 3, 1) := by decide +kernel
theorem dX9_cords_13 : decode cX9_cords 13 = .ok (.invokevirtual 52, 3) := by decide +kernel
theorem dX9_cords_16 : decode cX9_cords 16 = .ok (.bipush (-4), 2) := by decide +kernel
theorem dX9_cords_18 : decode cX9_cords 18 = .ok (.if_icmp .ne 7, 3) := by decide +kernel
theorem dX9_cords_21 : decode cX9_cords 21 = .ok (.iconst 0, 1) := by decide +kernel
theorem dX9_cords_22 : decode cX9_cords 22 = .ok (.goto 4, 3) := by decide +kernel
theorem dX9_cords_25 : decode cX9_cords 25 = .ok (.iconst 1, 1) := by decide +kernel
theorem dX9_cords_26 : decode cX9_cords 26 = .ok (.aload_n 0, 1) := by decide +kernel
theorem dX9_cords_27 : decode cX9_cords 27 = .ok (.iload_n 3, 1) := by decide +kernel
theorem dX9_cords_28 : decode cX9_cords 28 = .ok (.iconst 4, 1) := by decide +kernel
theorem dX9_cords_29 : decode cX9_cords 29 = .ok (.invokevirtual 52, 3) := by decide +kernel
theorem dX9_cords_32 : decode cX9_cords 32 = .ok (.bipush (-4), 2) := by decide +kernel
theorem dX9_cords_34 : decode cX9_cords 34 = .ok (.if_icmp .ne 7, 3) := by decide +kernel
theorem dX9_cords_37 : decode cX9_cords 37 = .ok (.iconst 0, 1) := by decide +kernel
theorem dX9_cords_38 : decode cX9_cords 38 = .ok (.goto 4, 3) := by decide +kernel
theorem dX9_cords_41 : decode cX9_cords 41 = .ok (.iconst 1, 1) := by decide +kernel
theorem dX9_cords_42 : decode cX9_cords 42 = .ok (.iadd, 1) := by decide +kernel
theorem dX9_cords_43 : decode cX9_cords 43 = .ok (.istore 4, 2) := by decide +kernel
theorem dX9_cords_45 : decode cX9_cords 45 = .ok (.iload_n 2, 1) := by decide +kernel
theorem dX9_cords_46 : decode cX9_cords 46 = .ok (.aload_n 0, 1) := by decide +kernel
theorem dX9_cords_47 : decode cX9_cords 47 = .ok (.iload_n 3, 1) := by decide +kernel
theorem dX9_cords_48 : decode cX9_cords 48 = .ok (.invokevirtual 78, 3) := by decide +kernel
theorem dX9_cords_51 : decode cX9_cords 51 = .ok (.iload_n 1, 1) := by decide +kernel
theorem dX9_cords_52 : decode cX9_cords 52 = .ok (.if_icmp .ne 8, 3) := by decide +kernel
theorem dX9_cords_55 : decode cX9_cords 55 = .ok (.iload 4, 2) := by decide +kernel
theorem dX9_cords_57 : decode cX9_cords 57 = .ok (.goto 4, 3) := by decide +kernel
theorem dX9_cords_60 : decode cX9_cords 60 = .ok (.iconst 0, 1) := by decide +kernel
theorem dX9_cords_61 : decode cX9_cords 61 = .ok (.iadd, 1) := by decide +kernel
theorem dX9_cords_62 : decode cX9_cords 62 = .ok (.istore_n 2, 1) := by decide +kernel
theorem dX9_cords_63 : decode cX9_cords 63 = .ok (.iinc 3 1, 3) := by decide +kernel
theorem dX9_cords_66 : decode cX9_cords 66 = .ok (.goto (-62), 3) := by decide +kernel
theorem dX9_cords_69 : decode cX9_cords 69 = .ok (.iload_n 2, 1) := by decide +kernel
theorem dX9_cords_70 : decode cX9_cords 70 = .ok (.ireturn, 1) := by decide +kernel
theorem dX9_held_0 : decode cX9_held 0 = .ok (.iconst 0, 1) := by decide +kernel
theorem dX9_held_1 : decode cX9_held 1 = .ok (.istore_n 1, 1) := by decide +kernel
theorem dX9_held_2 : decode cX9_held 2 = .ok (.iconst 0, 1) := by decide +kernel
theorem dX9_held_3 : decode cX9_held 3 = .ok (.istore_n 2, 1) := by decide +kernel
theorem dX9_held_4 : decode cX9_held 4 = .ok (.iload_n 2, 1) := by decide +kernel
theorem dX9_held_5 : decode cX9_held 5 = .ok (.bipush 10, 2) := by decide +kernel
theorem dX9_held_7 : decode cX9_held 7 = .ok (.if_icmp .ge 26, 3) := by decide +kernel
theorem dX9_held_10 : decode cX9_held 10 = .ok (.iload_n 1, 1) := by decide +kernel
theorem dX9_held_11 : decode cX9_held 11 = .ok (.aload_n 0, 1) := by decide +kernel
theorem dX9_held_12 : decode cX9_held 12 = .ok (.iload_n 2, 1) := by decide +kernel
theorem dX9_held_13 : decode cX9_held 13 = .ok (.iconst 1, 1) := by decide +kernel
theorem dX9_held_14 : decode cX9_held 14 = .ok (.invokevirtual 82, 3) := by decide +kernel
theorem dX9_held_17 : decode cX9_held 17 = .ok (.ifCond .le 7, 3) := by decide +kernel
theorem dX9_held_20 : decode cX9_held 20 = .ok (.iconst 1, 1) := by decide +kernel
theorem dX9_held_21 : decode cX9_held 21 = .ok (.goto 4, 3) := by decide +kernel
theorem dX9_held_24 : decode cX9_held 24 = .ok (.iconst 0, 1) := by decide +kernel
theorem dX9_held_25 : decode cX9_held 25 = .ok (.iadd, 1) := by decide +kernel
theorem dX9_held_26 : decode cX9_held 26 = .ok (.istore_n 1, 1) := by decide +kernel
theorem dX9_held_27 : decode cX9_held 27 = .ok (.iinc 2 1, 3) := by decide +kernel
theorem dX9_held_30 : decode cX9_held 30 = .ok (.goto (-26), 3) := by decide +kernel
theorem dX9_held_33 : decode cX9_held 33 = .ok (.iload_n 1, 1) := by decide +kernel
theorem dX9_held_34 : decode cX9_held 34 = .ok (.ireturn, 1) := by decide +kernel
theorem dX9_pairsOfHalls_0 : decode cX9_pairsOfHalls 0 = .ok (.iconst 0, 1) := by decide +kernel
theorem dX9_pairsOfHalls_1 : decode cX9_pairsOfHalls 1 = .ok (.istore_n 1, 1) := by decide +kernel
theorem dX9_pairsOfHalls_2 : decode cX9_pairsOfHalls 2 = .ok (.iconst 0, 1) := by decide +kernel
theorem dX9_pairsOfHalls_3 : decode cX9_pairsOfHalls 3 = .ok (.istore_n 2, 1) := by decide +kernel
theorem dX9_pairsOfHalls_4 : decode cX9_pairsOfHalls 4 = .ok (.iload_n 2, 1) := by decide +kernel
theorem dX9_pairsOfHalls_5 : decode cX9_pairsOfHalls 5 = .ok (.bipush 6, 2) := by decide +kernel
theorem dX9_pairsOfHalls_7 : decode cX9_pairsOfHalls 7 = .ok (.if_icmp .ge 22, 3) := by decide +kernel
theorem dX9_pairsOfHalls_10 : decode cX9_pairsOfHalls 10 = .ok (.iload_n 1, 1) := by decide +kernel
theorem dX9_pairsOfHalls_11 : decode cX9_pairsOfHalls 11 = .ok (.aload_n 0, 1) := by decide +kernel
theorem dX9_pairsOfHalls_12 : decode cX9_pairsOfHalls 12 = .ok (.iload_n 2, 1) := by decide +kernel
theorem dX9_pairsOfHalls_13 : decode cX9_pairsOfHalls 13 = .ok (.invokevirtual 185, 3) := by decide +kernel
theorem dX9_pairsOfHalls_16 : decode cX9_pairsOfHalls 16 = .ok (.invokestatic 188, 3) := by decide +kernel
theorem dX9_pairsOfHalls_19 : decode cX9_pairsOfHalls 19 = .ok (.iconst 1, 1) := by decide +kernel
theorem dX9_pairsOfHalls_20 : decode cX9_pairsOfHalls 20 = .ok (.isub, 1) := by decide +kernel
theorem dX9_pairsOfHalls_21 : decode cX9_pairsOfHalls 21 = .ok (.iadd, 1) := by decide +kernel
theorem dX9_pairsOfHalls_22 : decode cX9_pairsOfHalls 22 = .ok (.istore_n 1, 1) := by decide +kernel
theorem dX9_pairsOfHalls_23 : decode cX9_pairsOfHalls 23 = .ok (.iinc 2 1, 3) := by decide +kernel
theorem dX9_pairsOfHalls_26 : decode cX9_pairsOfHalls 26 = .ok (.goto (-22), 3) := by decide +kernel
theorem dX9_pairsOfHalls_29 : decode cX9_pairsOfHalls 29 = .ok (.iload_n 1, 1) := by decide +kernel
theorem dX9_pairsOfHalls_30 : decode cX9_pairsOfHalls 30 = .ok (.iconst 2, 1) := by decide +kernel
theorem dX9_pairsOfHalls_31 : decode cX9_pairsOfHalls 31 = .ok (.idiv, 1) := by decide +kernel
theorem dX9_pairsOfHalls_32 : decode cX9_pairsOfHalls 32 = .ok (.ireturn, 1) := by decide +kernel
theorem dX9_pairsOfDoors_0 : decode cX9_pairsOfDoors 0 = .ok (.iconst 0, 1) := by decide +kernel
theorem dX9_pairsOfDoors_1 : decode cX9_pairsOfDoors 1 = .ok (.istore_n 1, 1) := by decide +kernel
theorem dX9_pairsOfDoors_2 : decode cX9_pairsOfDoors 2 = .ok (.iconst 0, 1) := by decide +kernel
theorem dX9_pairsOfDoors_3 : decode cX9_pairsOfDoors 3 = .ok (.istore_n 2, 1) := by decide +kernel
theorem dX9_pairsOfDoors_4 : decode cX9_pairsOfDoors 4 = .ok (.iload_n 2, 1) := by decide +kernel
theorem dX9_pairsOfDoors_5 : decode cX9_pairsOfDoors 5 = .ok (.bipush 10, 2) := by decide +kernel
theorem dX9_pairsOfDoors_7 : decode cX9_pairsOfDoors 7 = .ok (.if_icmp .ge 48, 3) := by decide +kernel
theorem dX9_pairsOfDoors_10 : decode cX9_pairsOfDoors 10 = .ok (.iconst 0, 1) := by decide +kernel
theorem dX9_pairsOfDoors_11 : decode cX9_pairsOfDoors 11 = .ok (.istore_n 3, 1) := by decide +kernel
theorem dX9_pairsOfDoors_12 : decode cX9_pairsOfDoors 12 = .ok (.iload_n 3, 1) := by decide +kernel
theorem dX9_pairsOfDoors_13 : decode cX9_pairsOfDoors 13 = .ok (.iload_n 2, 1) := by decide +kernel
theorem dX9_pairsOfDoors_14 : decode cX9_pairsOfDoors 14 = .ok (.if_icmp .ge 35, 3) := by decide +kernel
theorem dX9_pairsOfDoors_17 : decode cX9_pairsOfDoors 17 = .ok (.iload_n 1, 1) := by decide +kernel
theorem dX9_pairsOfDoors_18 : decode cX9_pairsOfDoors 18 = .ok (.aload_n 0, 1) := by decide +kernel
theorem dX9_pairsOfDoors_19 : decode cX9_pairsOfDoors 19 = .ok (.iload_n 2, 1) := by decide +kernel
theorem dX9_pairsOfDoors_20 : decode cX9_pairsOfDoors 20 = .ok (.iload_n 3, 1) := by decide +kernel
theorem dX9_pairsOfDoors_21 : decode cX9_pairsOfDoors 21 = .ok (.invokevirtual 74, 3) := by decide +kernel
theorem dX9_pairsOfDoors_24 : decode cX9_pairsOfDoors 24 = .ok (.ifCond .eq 16, 3) := by decide +kernel
theorem dX9_pairsOfDoors_27 : decode cX9_pairsOfDoors 27 = .ok (.aload_n 0, 1) := by decide +kernel
theorem dX9_pairsOfDoors_28 : decode cX9_pairsOfDoors 28 = .ok (.iload_n 3, 1) := by decide +kernel
theorem dX9_pairsOfDoors_29 : decode cX9_pairsOfDoors 29 = .ok (.iload_n 2, 1) := by decide +kernel
theorem dX9_pairsOfDoors_30 : decode cX9_pairsOfDoors 30 = .ok (.invokevirtual 74, 3) := by decide +kernel
theorem dX9_pairsOfDoors_33 : decode cX9_pairsOfDoors 33 = .ok (.ifCond .eq 7, 3) := by decide +kernel
theorem dX9_pairsOfDoors_36 : decode cX9_pairsOfDoors 36 = .ok (.iconst 1, 1) := by decide +kernel
theorem dX9_pairsOfDoors_37 : decode cX9_pairsOfDoors 37 = .ok (.goto 4, 3) := by decide +kernel
theorem dX9_pairsOfDoors_40 : decode cX9_pairsOfDoors 40 = .ok (.iconst 0, 1) := by decide +kernel
theorem dX9_pairsOfDoors_41 : decode cX9_pairsOfDoors 41 = .ok (.iadd, 1) := by decide +kernel
theorem dX9_pairsOfDoors_42 : decode cX9_pairsOfDoors 42 = .ok (.istore_n 1, 1) := by decide +kernel
theorem dX9_pairsOfDoors_43 : decode cX9_pairsOfDoors 43 = .ok (.iinc 3 1, 3) := by decide +kernel
theorem dX9_pairsOfDoors_46 : decode cX9_pairsOfDoors 46 = .ok (.goto (-34), 3) := by decide +kernel
theorem dX9_pairsOfDoors_49 : decode cX9_pairsOfDoors 49 = .ok (.iinc 2 1, 3) := by decide +kernel
theorem dX9_pairsOfDoors_52 : decode cX9_pairsOfDoors 52 = .ok (.goto (-48), 3) := by decide +kernel
theorem dX9_pairsOfDoors_55 : decode cX9_pairsOfDoors 55 = .ok (.iload_n 1, 1) := by decide +kernel
theorem dX9_pairsOfDoors_56 : decode cX9_pairsOfDoors 56 = .ok (.ireturn, 1) := by decide +kernel
theorem dX9_count_0 : decode cX9_count 0 = .ok (.iload_n 1, 1) := by decide +kernel
theorem dX9_count_1 : decode cX9_count 1 = .ok (.tableswitch 147 0 14 #[75, 80, 88, 88, 103, 108, 113, 118, 118, 118, 118, 118, 130, 137, 142], 75) := by decide +kernel
theorem dX9_count_76 : decode cX9_count 76 = .ok (.aload_n 0, 1) := by decide +kernel
theorem dX9_count_77 : decode cX9_count 77 = .ok (.invokevirtual 67, 3) := by decide +kernel
theorem dX9_count_80 : decode cX9_count 80 = .ok (.ireturn, 1) := by decide +kernel
theorem dX9_count_81 : decode cX9_count 81 = .ok (.aload_n 0, 1) := by decide +kernel
theorem dX9_count_82 : decode cX9_count 82 = .ok (.invokevirtual 67, 3) := by decide +kernel
theorem dX9_count_85 : decode cX9_count 85 = .ok (.invokestatic 188, 3) := by decide +kernel
theorem dX9_count_88 : decode cX9_count 88 = .ok (.ireturn, 1) := by decide +kernel
theorem dX9_count_89 : decode cX9_count 89 = .ok (.aload_n 0, 1) := by decide +kernel
theorem dX9_count_90 : decode cX9_count 90 = .ok (.iload_n 1, 1) := by decide +kernel
theorem dX9_count_91 : decode cX9_count 91 = .ok (.iconst 2, 1) := by decide +kernel
theorem dX9_count_92 : decode cX9_count 92 = .ok (.if_icmp .ne 7, 3) := by decide +kernel
theorem dX9_count_95 : decode cX9_count 95 = .ok (.iconst 1, 1) := by decide +kernel
theorem dX9_count_96 : decode cX9_count 96 = .ok (.goto 4, 3) := by decide +kernel
theorem dX9_count_99 : decode cX9_count 99 = .ok (.iconst 0, 1) := by decide +kernel
theorem dX9_count_100 : decode cX9_count 100 = .ok (.invokevirtual 210, 3) := by decide +kernel
theorem dX9_count_103 : decode cX9_count 103 = .ok (.ireturn, 1) := by decide +kernel
theorem dX9_count_104 : decode cX9_count 104 = .ok (.aload_n 0, 1) := by decide +kernel
theorem dX9_count_105 : decode cX9_count 105 = .ok (.invokevirtual 214, 3) := by decide +kernel
theorem dX9_count_108 : decode cX9_count 108 = .ok (.ireturn, 1) := by decide +kernel
theorem dX9_count_109 : decode cX9_count 109 = .ok (.aload_n 0, 1) := by decide +kernel
theorem dX9_count_110 : decode cX9_count 110 = .ok (.invokevirtual 217, 3) := by decide +kernel
theorem dX9_count_113 : decode cX9_count 113 = .ok (.ireturn, 1) := by decide +kernel
theorem dX9_count_114 : decode cX9_count 114 = .ok (.aload_n 0, 1) := by decide +kernel
theorem dX9_count_115 : decode cX9_count 115 = .ok (.invokevirtual 220, 3) := by decide +kernel
theorem dX9_count_118 : decode cX9_count 118 = .ok (.ireturn, 1) := by decide +kernel
theorem dX9_count_119 : decode cX9_count 119 = .ok (.aload_n 0, 1) := by decide +kernel
theorem dX9_count_120 : decode cX9_count 120 = .ok (.getfield 7, 3) := by decide +kernel
theorem dX9_count_123 : decode cX9_count 123 = .ok (.iconst 1, 1) := by decide +kernel
theorem dX9_count_124 : decode cX9_count 124 = .ok (.iload_n 1, 1) := by decide +kernel
theorem dX9_count_125 : decode cX9_count 125 = .ok (.iadd, 1) := by decide +kernel
theorem dX9_count_126 : decode cX9_count 126 = .ok (.bipush 7, 2) := by decide +kernel
theorem dX9_count_128 : decode cX9_count 128 = .ok (.isub, 1) := by decide +kernel
theorem dX9_count_129 : decode cX9_count 129 = .ok (.iaload, 1) := by decide +kernel
theorem dX9_count_130 : decode cX9_count 130 = .ok (.ireturn, 1) := by decide +kernel
theorem dX9_count_131 : decode cX9_count 131 = .ok (.aload_n 0, 1) := by decide +kernel
theorem dX9_count_132 : decode cX9_count 132 = .ok (.getfield 7, 3) := by decide +kernel
theorem dX9_count_135 : decode cX9_count 135 = .ok (.iconst 0, 1) := by decide +kernel
theorem dX9_count_136 : decode cX9_count 136 = .ok (.iaload, 1) := by decide +kernel
theorem dX9_count_137 : decode cX9_count 137 = .ok (.ireturn, 1) := by decide +kernel
theorem dX9_count_138 : decode cX9_count 138 = .ok (.aload_n 0, 1) := by decide +kernel
theorem dX9_count_139 : decode cX9_count 139 = .ok (.getfield 151, 3) := by decide +kernel
theorem dX9_count_142 : decode cX9_count 142 = .ok (.ireturn, 1) := by decide +kernel
theorem dX9_count_143 : decode cX9_count 143 = .ok (.aload_n 0, 1) := by decide +kernel
theorem dX9_count_144 : decode cX9_count 144 = .ok (.getfield 56, 3) := by decide +kernel
theorem dX9_count_147 : decode cX9_count 147 = .ok (.ireturn, 1) := by decide +kernel
theorem dX9_count_148 : decode cX9_count 148 = .ok (.iconst (-1), 1) := by decide +kernel
theorem dX9_count_149 : decode cX9_count 149 = .ok (.ireturn, 1) := by decide +kernel
theorem dX9_tightness_0 : decode cX9_tightness 0 = .ok (.aload_n 0, 1) := by decide +kernel
theorem dX9_tightness_1 : decode cX9_tightness 1 = .ok (.iconst 1, 1) := by decide +kernel
theorem dX9_tightness_2 : decode cX9_tightness 2 = .ok (.invokevirtual 210, 3) := by decide +kernel
theorem dX9_tightness_5 : decode cX9_tightness 5 = .ok (.i2d, 1) := by decide +kernel
theorem dX9_tightness_6 : decode cX9_tightness 6 = .ok (.dstore_n 1, 1) := by decide +kernel
theorem dX9_tightness_7 : decode cX9_tightness 7 = .ok (.aload_n 0, 1) := by decide +kernel
theorem dX9_tightness_8 : decode cX9_tightness 8 = .ok (.iconst 1, 1) := by decide +kernel
theorem dX9_tightness_9 : decode cX9_tightness 9 = .ok (.invokevirtual 210, 3) := by decide +kernel
theorem dX9_tightness_12 : decode cX9_tightness 12 = .ok (.aload_n 0, 1) := by decide +kernel
theorem dX9_tightness_13 : decode cX9_tightness 13 = .ok (.iconst 0, 1) := by decide +kernel
theorem dX9_tightness_14 : decode cX9_tightness 14 = .ok (.invokevirtual 210, 3) := by decide +kernel
theorem dX9_tightness_17 : decode cX9_tightness 17 = .ok (.iadd, 1) := by decide +kernel
theorem dX9_tightness_18 : decode cX9_tightness 18 = .ok (.i2d, 1) := by decide +kernel
theorem dX9_tightness_19 : decode cX9_tightness 19 = .ok (.dstore_n 3, 1) := by decide +kernel
theorem dX9_tightness_20 : decode cX9_tightness 20 = .ok (.dload_n 3, 1) := by decide +kernel
theorem dX9_tightness_21 : decode cX9_tightness 21 = .ok (.dconst 0, 1) := by decide +kernel
theorem dX9_tightness_22 : decode cX9_tightness 22 = .ok (.dcmp .l, 1) := by decide +kernel
theorem dX9_tightness_23 : decode cX9_tightness 23 = .ok (.ifCond .ne 7, 3) := by decide +kernel
theorem dX9_tightness_26 : decode cX9_tightness 26 = .ok (.dconst 0, 1) := by decide +kernel
theorem dX9_tightness_27 : decode cX9_tightness 27 = .ok (.goto 6, 3) := by decide +kernel
theorem dX9_tightness_30 : decode cX9_tightness 30 = .ok (.dload_n 1, 1) := by decide +kernel
theorem dX9_tightness_31 : decode cX9_tightness 31 = .ok (.dload_n 3, 1) := by decide +kernel
theorem dX9_tightness_32 : decode cX9_tightness 32 = .ok (.ddiv, 1) := by decide +kernel
theorem dX9_tightness_33 : decode cX9_tightness 33 = .ok (.dreturn, 1) := by decide +kernel
theorem dX9_ifOpened_0 : decode cX9_ifOpened 0 = .ok (.iload_n 1, 1) := by decide +kernel
theorem dX9_ifOpened_1 : decode cX9_ifOpened 1 = .ok (.invokestatic 127, 3) := by decide +kernel
theorem dX9_ifOpened_4 : decode cX9_ifOpened 4 = .ok (.ifCond .eq 12, 3) := by decide +kernel
theorem dX9_ifOpened_7 : decode cX9_ifOpened 7 = .ok (.iload_n 2, 1) := by decide +kernel
theorem dX9_ifOpened_8 : decode cX9_ifOpened 8 = .ok (.iconst 0, 1) := by decide +kernel
theorem dX9_ifOpened_9 : decode cX9_ifOpened 9 = .ok (.iconst 2, 1) := by decide +kernel
theorem dX9_ifOpened_10 : decode cX9_ifOpened 10 = .ok (.invokestatic 48, 3) := by decide +kernel
theorem dX9_ifOpened_13 : decode cX9_ifOpened 13 = .ok (.ifCond .ne 5, 3) := by decide +kernel
theorem dX9_ifOpened_16 : decode cX9_ifOpened 16 = .ok (.iconst (-1), 1) := by decide +kernel
theorem dX9_ifOpened_17 : decode cX9_ifOpened 17 = .ok (.ireturn, 1) := by decide +kernel
theorem dX9_ifOpened_18 : decode cX9_ifOpened 18 = .ok (.aload_n 0, 1) := by decide +kernel
theorem dX9_ifOpened_19 : decode cX9_ifOpened 19 = .ok (.iload_n 1, 1) := by decide +kernel
theorem dX9_ifOpened_20 : decode cX9_ifOpened 20 = .ok (.invokevirtual 100, 3) := by decide +kernel
theorem dX9_ifOpened_23 : decode cX9_ifOpened 23 = .ok (.ifCond .le 16, 3) := by decide +kernel
theorem dX9_ifOpened_26 : decode cX9_ifOpened 26 = .ok (.iload_n 2, 1) := by decide +kernel
theorem dX9_ifOpened_27 : decode cX9_ifOpened 27 = .ok (.ifCond .ne 10, 3) := by decide +kernel
theorem dX9_ifOpened_30 : decode cX9_ifOpened 30 = .ok (.aload_n 0, 1) := by decide +kernel
theorem dX9_ifOpened_31 : decode cX9_ifOpened 31 = .ok (.invokevirtual 67, 3) := by decide +kernel
theorem dX9_ifOpened_34 : decode cX9_ifOpened 34 = .ok (.goto 4, 3) := by decide +kernel
theorem dX9_ifOpened_37 : decode cX9_ifOpened 37 = .ok (.iconst 0, 1) := by decide +kernel
theorem dX9_ifOpened_38 : decode cX9_ifOpened 38 = .ok (.ireturn, 1) := by decide +kernel
theorem dX9_ifOpened_39 : decode cX9_ifOpened 39 = .ok (.aload_n 0, 1) := by decide +kernel
theorem dX9_ifOpened_40 : decode cX9_ifOpened 40 = .ok (.getfield 7, 3) := by decide +kernel
theorem dX9_ifOpened_43 : decode cX9_ifOpened 43 = .ok (.iconst 0, 1) := by decide +kernel
theorem dX9_ifOpened_44 : decode cX9_ifOpened 44 = .ok (.aload_n 0, 1) := by decide +kernel
theorem dX9_ifOpened_45 : decode cX9_ifOpened 45 = .ok (.getfield 13, 3) := by decide +kernel
theorem dX9_ifOpened_48 : decode cX9_ifOpened 48 = .ok (.iconst 0, 1) := by decide +kernel
theorem dX9_ifOpened_49 : decode cX9_ifOpened 49 = .ok (.invokestatic 59, 3) := by decide +kernel
theorem dX9_ifOpened_52 : decode cX9_ifOpened 52 = .ok (.aload_n 0, 1) := by decide +kernel
theorem dX9_ifOpened_53 : decode cX9_ifOpened 53 = .ok (.iload_n 1, 1) := by decide +kernel
theorem dX9_ifOpened_54 : decode cX9_ifOpened 54 = .ok (.invokevirtual 106, 3) := by decide +kernel
theorem dX9_ifOpened_57 : decode cX9_ifOpened 57 = .ok (.pop, 1) := by decide +kernel
theorem dX9_ifOpened_58 : decode cX9_ifOpened 58 = .ok (.iload_n 2, 1) := by decide +kernel
theorem dX9_ifOpened_59 : decode cX9_ifOpened 59 = .ok (.ifCond .ne 10, 3) := by decide +kernel
theorem dX9_ifOpened_62 : decode cX9_ifOpened 62 = .ok (.aload_n 0, 1) := by decide +kernel
theorem dX9_ifOpened_63 : decode cX9_ifOpened 63 = .ok (.invokevirtual 67, 3) := by decide +kernel
theorem dX9_ifOpened_66 : decode cX9_ifOpened 66 = .ok (.goto 37, 3) := by decide +kernel
theorem dX9_ifOpened_69 : decode cX9_ifOpened 69 = .ok (.iload_n 2, 1) := by decide +kernel
theorem dX9_ifOpened_70 : decode cX9_ifOpened 70 = .ok (.iconst 1, 1) := by decide +kernel
theorem dX9_ifOpened_71 : decode cX9_ifOpened 71 = .ok (.if_icmp .ne 19, 3) := by decide +kernel
theorem dX9_ifOpened_74 : decode cX9_ifOpened 74 = .ok (.aload_n 0, 1) := by decide +kernel
theorem dX9_ifOpened_75 : decode cX9_ifOpened 75 = .ok (.getfield 7, 3) := by decide +kernel
theorem dX9_ifOpened_78 : decode cX9_ifOpened 78 = .ok (.iconst 3, 1) := by decide +kernel
theorem dX9_ifOpened_79 : decode cX9_ifOpened 79 = .ok (.iaload, 1) := by decide +kernel
theorem dX9_ifOpened_80 : decode cX9_ifOpened 80 = .ok (.aload_n 0, 1) := by decide +kernel
theorem dX9_ifOpened_81 : decode cX9_ifOpened 81 = .ok (.getfield 13, 3) := by decide +kernel
theorem dX9_ifOpened_84 : decode cX9_ifOpened 84 = .ok (.iconst 3, 1) := by decide +kernel
theorem dX9_ifOpened_85 : decode cX9_ifOpened 85 = .ok (.iaload, 1) := by decide +kernel
theorem dX9_ifOpened_86 : decode cX9_ifOpened 86 = .ok (.isub, 1) := by decide +kernel
theorem dX9_ifOpened_87 : decode cX9_ifOpened 87 = .ok (.goto 16, 3) := by decide +kernel
theorem dX9_ifOpened_90 : decode cX9_ifOpened 90 = .ok (.aload_n 0, 1) := by decide +kernel
theorem dX9_ifOpened_91 : decode cX9_ifOpened 91 = .ok (.getfield 7, 3) := by decide +kernel
theorem dX9_ifOpened_94 : decode cX9_ifOpened 94 = .ok (.iconst 4, 1) := by decide +kernel
theorem dX9_ifOpened_95 : decode cX9_ifOpened 95 = .ok (.iaload, 1) := by decide +kernel
theorem dX9_ifOpened_96 : decode cX9_ifOpened 96 = .ok (.aload_n 0, 1) := by decide +kernel
theorem dX9_ifOpened_97 : decode cX9_ifOpened 97 = .ok (.getfield 13, 3) := by decide +kernel
theorem dX9_ifOpened_100 : decode cX9_ifOpened 100 = .ok (.iconst 4, 1) := by decide +kernel
theorem dX9_ifOpened_101 : decode cX9_ifOpened 101 = .ok (.iaload, 1) := by decide +kernel
theorem dX9_ifOpened_102 : decode cX9_ifOpened 102 = .ok (.isub, 1) := by decide +kernel
theorem dX9_ifOpened_103 : decode cX9_ifOpened 103 = .ok (.istore_n 3, 1) := by decide +kernel
theorem dX9_ifOpened_104 : decode cX9_ifOpened 104 = .ok (.aload_n 0, 1) := by decide +kernel
theorem dX9_ifOpened_105 : decode cX9_ifOpened 105 = .ok (.getfield 13, 3) := by decide +kernel
theorem dX9_ifOpened_108 : decode cX9_ifOpened 108 = .ok (.iconst 0, 1) := by decide +kernel
theorem dX9_ifOpened_109 : decode cX9_ifOpened 109 = .ok (.aload_n 0, 1) := by decide +kernel
theorem dX9_ifOpened_110 : decode cX9_ifOpened 110 = .ok (.getfield 7, 3) := by decide +kernel
theorem dX9_ifOpened_113 : decode cX9_ifOpened 113 = .ok (.iconst 0, 1) := by decide +kernel
theorem dX9_ifOpened_114 : decode cX9_ifOpened 114 = .ok (.invokestatic 59, 3) := by decide +kernel
theorem dX9_ifOpened_117 : decode cX9_ifOpened 117 = .ok (.iload_n 3, 1) := by decide +kernel
theorem dX9_ifOpened_118 : decode cX9_ifOpened 118 = .ok (.ireturn, 1) := by decide +kernel
theorem dJ6_bitCount_0f7a4_0 : decode cJ6_bitCount_0f7a4 0 = .ok (.iload_n 0, 1) := by decide +kernel
theorem dJ6_bitCount_0f7a4_1 : decode cJ6_bitCount_0f7a4 1 = .ok (.iload_n 0, 1) := by decide +kernel
theorem dJ6_bitCount_0f7a4_2 : decode cJ6_bitCount_0f7a4 2 = .ok (.iconst 1, 1) := by decide +kernel
theorem dJ6_bitCount_0f7a4_3 : decode cJ6_bitCount_0f7a4 3 = .ok (.iushr, 1) := by decide +kernel
theorem dJ6_bitCount_0f7a4_4 : decode cJ6_bitCount_0f7a4 4 = .ok (.ldc_w 265, 3) := by decide +kernel
theorem dJ6_bitCount_0f7a4_7 : decode cJ6_bitCount_0f7a4 7 = .ok (.iand, 1) := by decide +kernel
theorem dJ6_bitCount_0f7a4_8 : decode cJ6_bitCount_0f7a4 8 = .ok (.isub, 1) := by decide +kernel
theorem dJ6_bitCount_0f7a4_9 : decode cJ6_bitCount_0f7a4 9 = .ok (.istore_n 0, 1) := by decide +kernel
theorem dJ6_bitCount_0f7a4_10 : decode cJ6_bitCount_0f7a4 10 = .ok (.iload_n 0, 1) := by decide +kernel
theorem dJ6_bitCount_0f7a4_11 : decode cJ6_bitCount_0f7a4 11 = .ok (.ldc_w 266, 3) := by decide +kernel
theorem dJ6_bitCount_0f7a4_14 : decode cJ6_bitCount_0f7a4 14 = .ok (.iand, 1) := by decide +kernel
theorem dJ6_bitCount_0f7a4_15 : decode cJ6_bitCount_0f7a4 15 = .ok (.iload_n 0, 1) := by decide +kernel
theorem dJ6_bitCount_0f7a4_16 : decode cJ6_bitCount_0f7a4 16 = .ok (.iconst 2, 1) := by decide +kernel
theorem dJ6_bitCount_0f7a4_17 : decode cJ6_bitCount_0f7a4 17 = .ok (.iushr, 1) := by decide +kernel
theorem dJ6_bitCount_0f7a4_18 : decode cJ6_bitCount_0f7a4 18 = .ok (.ldc_w 266, 3) := by decide +kernel
theorem dJ6_bitCount_0f7a4_21 : decode cJ6_bitCount_0f7a4 21 = .ok (.iand, 1) := by decide +kernel
theorem dJ6_bitCount_0f7a4_22 : decode cJ6_bitCount_0f7a4 22 = .ok (.iadd, 1) := by decide +kernel
theorem dJ6_bitCount_0f7a4_23 : decode cJ6_bitCount_0f7a4 23 = .ok (.istore_n 0, 1) := by decide +kernel
theorem dJ6_bitCount_0f7a4_24 : decode cJ6_bitCount_0f7a4 24 = .ok (.iload_n 0, 1) := by decide +kernel
theorem dJ6_bitCount_0f7a4_25 : decode cJ6_bitCount_0f7a4 25 = .ok (.iload_n 0, 1) := by decide +kernel
theorem dJ6_bitCount_0f7a4_26 : decode cJ6_bitCount_0f7a4 26 = .ok (.iconst 4, 1) := by decide +kernel
theorem dJ6_bitCount_0f7a4_27 : decode cJ6_bitCount_0f7a4 27 = .ok (.iushr, 1) := by decide +kernel
theorem dJ6_bitCount_0f7a4_28 : decode cJ6_bitCount_0f7a4 28 = .ok (.iadd, 1) := by decide +kernel
theorem dJ6_bitCount_0f7a4_29 : decode cJ6_bitCount_0f7a4 29 = .ok (.ldc_w 267, 3) := by decide +kernel
theorem dJ6_bitCount_0f7a4_32 : decode cJ6_bitCount_0f7a4 32 = .ok (.iand, 1) := by decide +kernel
theorem dJ6_bitCount_0f7a4_33 : decode cJ6_bitCount_0f7a4 33 = .ok (.istore_n 0, 1) := by decide +kernel
theorem dJ6_bitCount_0f7a4_34 : decode cJ6_bitCount_0f7a4 34 = .ok (.iload_n 0, 1) := by decide +kernel
theorem dJ6_bitCount_0f7a4_35 : decode cJ6_bitCount_0f7a4 35 = .ok (.iload_n 0, 1) := by decide +kernel
theorem dJ6_bitCount_0f7a4_36 : decode cJ6_bitCount_0f7a4 36 = .ok (.bipush 8, 2) := by decide +kernel
theorem dJ6_bitCount_0f7a4_38 : decode cJ6_bitCount_0f7a4 38 = .ok (.iushr, 1) := by decide +kernel
theorem dJ6_bitCount_0f7a4_39 : decode cJ6_bitCount_0f7a4 39 = .ok (.iadd, 1) := by decide +kernel
theorem dJ6_bitCount_0f7a4_40 : decode cJ6_bitCount_0f7a4 40 = .ok (.istore_n 0, 1) := by decide +kernel
theorem dJ6_bitCount_0f7a4_41 : decode cJ6_bitCount_0f7a4 41 = .ok (.iload_n 0, 1) := by decide +kernel
theorem dJ6_bitCount_0f7a4_42 : decode cJ6_bitCount_0f7a4 42 = .ok (.iload_n 0, 1) := by decide +kernel
theorem dJ6_bitCount_0f7a4_43 : decode cJ6_bitCount_0f7a4 43 = .ok (.bipush 16, 2) := by decide +kernel
theorem dJ6_bitCount_0f7a4_45 : decode cJ6_bitCount_0f7a4 45 = .ok (.iushr, 1) := by decide +kernel
theorem dJ6_bitCount_0f7a4_46 : decode cJ6_bitCount_0f7a4 46 = .ok (.iadd, 1) := by decide +kernel
theorem dJ6_bitCount_0f7a4_47 : decode cJ6_bitCount_0f7a4 47 = .ok (.istore_n 0, 1) := by decide +kernel
theorem dJ6_bitCount_0f7a4_48 : decode cJ6_bitCount_0f7a4 48 = .ok (.iload_n 0, 1) := by decide +kernel
theorem dJ6_bitCount_0f7a4_49 : decode cJ6_bitCount_0f7a4 49 = .ok (.bipush 63, 2) := by decide +kernel
theorem dJ6_bitCount_0f7a4_51 : decode cJ6_bitCount_0f7a4 51 = .ok (.iand, 1) := by decide +kernel
theorem dJ6_bitCount_0f7a4_52 : decode cJ6_bitCount_0f7a4 52 = .ok (.ireturn, 1) := by decide +kernel
theorem dJ9_max_7cf53_0 : decode cJ9_max_7cf53 0 = .ok (.iload_n 0, 1) := by decide +kernel
theorem dJ9_max_7cf53_1 : decode cJ9_max_7cf53 1 = .ok (.iload_n 1, 1) := by decide +kernel
theorem dJ9_max_7cf53_2 : decode cJ9_max_7cf53 2 = .ok (.if_icmp .lt 7, 3) := by decide +kernel
theorem dJ9_max_7cf53_5 : decode cJ9_max_7cf53 5 = .ok (.iload_n 0, 1) := by decide +kernel
theorem dJ9_max_7cf53_6 : decode cJ9_max_7cf53 6 = .ok (.goto 4, 3) := by decide +kernel
theorem dJ9_max_7cf53_9 : decode cJ9_max_7cf53 9 = .ok (.iload_n 1, 1) := by decide +kernel
theorem dJ9_max_7cf53_10 : decode cJ9_max_7cf53 10 = .ok (.ireturn, 1) := by decide +kernel
theorem dJ9_min_7cf53_0 : decode cJ9_min_7cf53 0 = .ok (.iload_n 0, 1) := by decide +kernel
theorem dJ9_min_7cf53_1 : decode cJ9_min_7cf53 1 = .ok (.iload_n 1, 1) := by decide +kernel
theorem dJ9_min_7cf53_2 : decode cJ9_min_7cf53 2 = .ok (.if_icmp .gt 7, 3) := by decide +kernel
theorem dJ9_min_7cf53_5 : decode cJ9_min_7cf53 5 = .ok (.iload_n 0, 1) := by decide +kernel
theorem dJ9_min_7cf53_6 : decode cJ9_min_7cf53 6 = .ok (.goto 4, 3) := by decide +kernel
theorem dJ9_min_7cf53_9 : decode cJ9_min_7cf53 9 = .ok (.iload_n 1, 1) := by decide +kernel
theorem dJ9_min_7cf53_10 : decode cJ9_min_7cf53 10 = .ok (.ireturn, 1) := by decide +kernel
theorem dJ7_fill_53178_0 : decode cJ7_fill_53178 0 = .ok (.iconst 0, 1) := by decide +kernel
theorem dJ7_fill_53178_1 : decode cJ7_fill_53178 1 = .ok (.istore_n 2, 1) := by decide +kernel
theorem dJ7_fill_53178_2 : decode cJ7_fill_53178 2 = .ok (.aload_n 0, 1) := by decide +kernel
theorem dJ7_fill_53178_3 : decode cJ7_fill_53178 3 = .ok (.arraylength, 1) := by decide +kernel
theorem dJ7_fill_53178_4 : decode cJ7_fill_53178 4 = .ok (.istore_n 3, 1) := by decide +kernel
theorem dJ7_fill_53178_5 : decode cJ7_fill_53178 5 = .ok (.iload_n 2, 1) := by decide +kernel
theorem dJ7_fill_53178_6 : decode cJ7_fill_53178 6 = .ok (.iload_n 3, 1) := by decide +kernel
theorem dJ7_fill_53178_7 : decode cJ7_fill_53178 7 = .ok (.if_icmp .ge 13, 3) := by decide +kernel
theorem dJ7_fill_53178_10 : decode cJ7_fill_53178 10 = .ok (.aload_n 0, 1) := by decide +kernel
theorem dJ7_fill_53178_11 : decode cJ7_fill_53178 11 = .ok (.iload_n 2, 1) := by decide +kernel
theorem dJ7_fill_53178_12 : decode cJ7_fill_53178 12 = .ok (.iload_n 1, 1) := by decide +kernel
theorem dJ7_fill_53178_13 : decode cJ7_fill_53178 13 = .ok (.iastore, 1) := by decide +kernel
theorem dJ7_fill_53178_14 : decode cJ7_fill_53178 14 = .ok (.iinc 2 1, 3) := by decide +kernel
theorem dJ7_fill_53178_17 : decode cJ7_fill_53178 17 = .ok (.goto (-12), 3) := by decide +kernel
theorem dJ7_fill_53178_20 : decode cJ7_fill_53178 20 = .ok (.return_, 1) := by decide +kernel
theorem dL_law_0 : decode cL_law 0 = .ok (.new 7, 3) := by decide +kernel
theorem dL_law_3 : decode cL_law 3 = .ok (.dup, 1) := by decide +kernel
theorem dL_law_4 : decode cL_law 4 = .ok (.invokespecial 9, 3) := by decide +kernel
theorem dL_law_7 : decode cL_law 7 = .ok (.astore_n 1, 1) := by decide +kernel
theorem dL_law_8 : decode cL_law 8 = .ok (.new 10, 3) := by decide +kernel
theorem dL_law_11 : decode cL_law 11 = .ok (.dup, 1) := by decide +kernel
theorem dL_law_12 : decode cL_law 12 = .ok (.invokespecial 12, 3) := by decide +kernel
theorem dL_law_15 : decode cL_law 15 = .ok (.astore_n 2, 1) := by decide +kernel
theorem dL_law_16 : decode cL_law 16 = .ok (.iconst 0, 1) := by decide +kernel
theorem dL_law_17 : decode cL_law 17 = .ok (.istore_n 3, 1) := by decide +kernel
theorem dL_law_18 : decode cL_law 18 = .ok (.iload_n 3, 1) := by decide +kernel
theorem dL_law_19 : decode cL_law 19 = .ok (.aload_n 0, 1) := by decide +kernel
theorem dL_law_20 : decode cL_law 20 = .ok (.arraylength, 1) := by decide +kernel
theorem dL_law_21 : decode cL_law 21 = .ok (.iconst 4, 1) := by decide +kernel
theorem dL_law_22 : decode cL_law 22 = .ok (.isub, 1) := by decide +kernel
theorem dL_law_23 : decode cL_law 23 = .ok (.if_icmp .gt 874, 3) := by decide +kernel
theorem dL_law_26 : decode cL_law 26 = .ok (.aload_n 0, 1) := by decide +kernel
theorem dL_law_27 : decode cL_law 27 = .ok (.iload_n 3, 1) := by decide +kernel
theorem dL_law_28 : decode cL_law 28 = .ok (.iaload, 1) := by decide +kernel
theorem dL_law_29 : decode cL_law 29 = .ok (.bipush 31, 2) := by decide +kernel
theorem dL_law_31 : decode cL_law 31 = .ok (.iand, 1) := by decide +kernel
theorem dL_law_32 : decode cL_law 32 = .ok (.tableswitch 859 0 26 #[124, 147, 170, 229, 272, 305, 328, 361, 394, 427, 450, 463, 476, 489, 512, 545, 578, 611, 634, 657, 680, 723, 746, 787, 820, 833, 846], 124) := by decide +kernel
theorem dL_law_156 : decode cL_law 156 = .ok (.aload_n 1, 1) := by decide +kernel
theorem dL_law_157 : decode cL_law 157 = .ok (.aload_n 0, 1) := by decide +kernel
theorem dL_law_158 : decode cL_law 158 = .ok (.iload_n 3, 1) := by decide +kernel
theorem dL_law_159 : decode cL_law 159 = .ok (.iconst 1, 1) := by decide +kernel
theorem dL_law_160 : decode cL_law 160 = .ok (.iadd, 1) := by decide +kernel
theorem dL_law_161 : decode cL_law 161 = .ok (.iaload, 1) := by decide +kernel
theorem dL_law_162 : decode cL_law 162 = .ok (.invokevirtual 13, 3) := by decide +kernel
theorem dL_law_165 : decode cL_law 165 = .ok (.aload_n 2, 1) := by decide +kernel
theorem dL_law_166 : decode cL_law 166 = .ok (.aload_n 0, 1) := by decide +kernel
theorem dL_law_167 : decode cL_law 167 = .ok (.iload_n 3, 1) := by decide +kernel
theorem dL_law_168 : decode cL_law 168 = .ok (.iconst 1, 1) := by decide +kernel
theorem dL_law_169 : decode cL_law 169 = .ok (.iadd, 1) := by decide +kernel
theorem dL_law_170 : decode cL_law 170 = .ok (.iaload, 1) := by decide +kernel
theorem dL_law_171 : decode cL_law 171 = .ok (.invokevirtual 17, 3) := by decide +kernel
theorem dL_law_174 : decode cL_law 174 = .ok (.if_icmp .eq 717, 3) := by decide +kernel
theorem dL_law_177 : decode cL_law 177 = .ok (.iconst 0, 1) := by decide +kernel
theorem dL_law_178 : decode cL_law 178 = .ok (.ireturn, 1) := by decide +kernel
theorem dL_law_179 : decode cL_law 179 = .ok (.aload_n 1, 1) := by decide +kernel
theorem dL_law_180 : decode cL_law 180 = .ok (.aload_n 0, 1) := by decide +kernel
theorem dL_law_181 : decode cL_law 181 = .ok (.iload_n 3, 1) := by decide +kernel
theorem dL_law_182 : decode cL_law 182 = .ok (.iconst 1, 1) := by decide +kernel
theorem dL_law_183 : decode cL_law 183 = .ok (.iadd, 1) := by decide +kernel
theorem dL_law_184 : decode cL_law 184 = .ok (.iaload, 1) := by decide +kernel
theorem dL_law_185 : decode cL_law 185 = .ok (.invokevirtual 18, 3) := by decide +kernel
theorem dL_law_188 : decode cL_law 188 = .ok (.aload_n 2, 1) := by decide +kernel
theorem dL_law_189 : decode cL_law 189 = .ok (.aload_n 0, 1) := by decide +kernel
theorem dL_law_190 : decode cL_law 190 = .ok (.iload_n 3, 1) := by decide +kernel
theorem dL_law_191 : decode cL_law 191 = .ok (.iconst 1, 1) := by decide +kernel
theorem dL_law_192 : decode cL_law 192 = .ok (.iadd, 1) := by decide +kernel
theorem dL_law_193 : decode cL_law 193 = .ok (.iaload, 1) := by decide +kernel
theorem dL_law_194 : decode cL_law 194 = .ok (.invokevirtual 21, 3) := by decide +kernel
theorem dL_law_197 : decode cL_law 197 = .ok (.if_icmp .eq 694, 3) := by decide +kernel
theorem dL_law_200 : decode cL_law 200 = .ok (.iconst 0, 1) := by decide +kernel
theorem dL_law_201 : decode cL_law 201 = .ok (.ireturn, 1) := by decide +kernel
theorem dL_law_202 : decode cL_law 202 = .ok (.aload_n 1, 1) := by decide +kernel
theorem dL_law_203 : decode cL_law 203 = .ok (.aload_n 0, 1) := by decide +kernel
theorem dL_law_204 : decode cL_law 204 = .ok (.iload_n 3, 1) := by decide +kernel
theorem dL_law_205 : decode cL_law 205 = .ok (.iconst 1, 1) := by decide +kernel
theorem dL_law_206 : decode cL_law 206 = .ok (.iadd, 1) := by decide +kernel
theorem dL_law_207 : decode cL_law 207 = .ok (.iaload, 1) := by decide +kernel
theorem dL_law_208 : decode cL_law 208 = .ok (.aload_n 0, 1) := by decide +kernel
theorem dL_law_209 : decode cL_law 209 = .ok (.iload_n 3, 1) := by decide +kernel
theorem dL_law_210 : decode cL_law 210 = .ok (.iconst 2, 1) := by decide +kernel
theorem dL_law_211 : decode cL_law 211 = .ok (.iadd, 1) := by decide +kernel
theorem dL_law_212 : decode cL_law 212 = .ok (.iaload, 1) := by decide +kernel
theorem dL_law_213 : decode cL_law 213 = .ok (.ifCond .eq 7, 3) := by decide +kernel
theorem dL_law_216 : decode cL_law 216 = .ok (.iconst 1, 1) := by decide +kernel
theorem dL_law_217 : decode cL_law 217 = .ok (.goto 4, 3) := by decide +kernel
theorem dL_law_220 : decode cL_law 220 = .ok (.iconst 0, 1) := by decide +kernel
theorem dL_law_221 : decode cL_law 221 = .ok (.aload_n 0, 1) := by decide +kernel
theorem dL_law_222 : decode cL_law 222 = .ok (.iload_n 3, 1) := by decide +kernel
theorem dL_law_223 : decode cL_law 223 = .ok (.iconst 3, 1) := by decide +kernel
theorem dL_law_224 : decode cL_law 224 = .ok (.iadd, 1) := by decide +kernel
theorem dL_law_225 : decode cL_law 225 = .ok (.iaload, 1) := by decide +kernel
theorem dL_law_226 : decode cL_law 226 = .ok (.invokevirtual 22, 3) := by decide +kernel
theorem dL_law_229 : decode cL_law 229 = .ok (.aload_n 2, 1) := by decide +kernel
theorem dL_law_230 : decode cL_law 230 = .ok (.aload_n 0, 1) := by decide +kernel
theorem dL_law_231 : decode cL_law 231 = .ok (.iload_n 3, 1) := by decide +kernel
theorem dL_law_232 : decode cL_law 232 = .ok (.iconst 1, 1) := by decide +kernel
theorem dL_law_233 : decode cL_law 233 = .ok (.iadd, 1) := by decide +kernel
theorem dL_law_234 : decode cL_law 234 = .ok (.iaload, 1) := by decide +kernel
theorem dL_law_235 : decode cL_law 235 = .ok (.aload_n 0, 1) := by decide +kernel
theorem dL_law_236 : decode cL_law 236 = .ok (.iload_n 3, 1) := by decide +kernel
theorem dL_law_237 : decode cL_law 237 = .ok (.iconst 2, 1) := by decide +kernel
theorem dL_law_238 : decode cL_law 238 = .ok (.iadd, 1) := by decide +kernel
theorem dL_law_239 : decode cL_law 239 = .ok (.iaload, 1) := by decide +kernel
theorem dL_law_240 : decode cL_law 240 = .ok (.ifCond .eq 7, 3) := by decide +kernel
theorem dL_law_243 : decode cL_law 243 = .ok (.iconst 1, 1) := by decide +kernel
theorem dL_law_244 : decode cL_law 244 = .ok (.goto 4, 3) := by decide +kernel
theorem dL_law_247 : decode cL_law 247 = .ok (.iconst 0, 1) := by decide +kernel
theorem dL_law_248 : decode cL_law 248 = .ok (.aload_n 0, 1) := by decide +kernel
theorem dL_law_249 : decode cL_law 249 = .ok (.iload_n 3, 1) := by decide +kernel
theorem dL_law_250 : decode cL_law 250 = .ok (.iconst 3, 1) := by decide +kernel
theorem dL_law_251 : decode cL_law 251 = .ok (.iadd, 1) := by decide +kernel
theorem dL_law_252 : decode cL_law 252 = .ok (.iaload, 1) := by decide +kernel
theorem dL_law_253 : decode cL_law 253 = .ok (.invokevirtual 26, 3) := by decide +kernel
theorem dL_law_256 : decode cL_law 256 = .ok (.if_icmp .eq 635, 3) := by decide +kernel
theorem dL_law_259 : decode cL_law 259 = .ok (.iconst 0, 1) := by decide +kernel
theorem dL_law_260 : decode cL_law 260 = .ok (.ireturn, 1) := by decide +kernel
theorem dL_law_261 : decode cL_law 261 = .ok (.aload_n 1, 1) := by decide +kernel
theorem dL_law_262 : decode cL_law 262 = .ok (.aload_n 0, 1) := by decide +kernel
theorem dL_law_263 : decode cL_law 263 = .ok (.iload_n 3, 1) := by decide +kernel
theorem dL_law_264 : decode cL_law 264 = .ok (.iconst 1, 1) := by decide +kernel
theorem dL_law_265 : decode cL_law 265 = .ok (.iadd, 1) := by decide +kernel
theorem dL_law_266 : decode cL_law 266 = .ok (.iaload, 1) := by decide +kernel
theorem dL_law_267 : decode cL_law 267 = .ok (.aload_n 0, 1) := by decide +kernel
theorem dL_law_268 : decode cL_law 268 = .ok (.iload_n 3, 1) := by decide +kernel
theorem dL_law_269 : decode cL_law 269 = .ok (.iconst 2, 1) := by decide +kernel
theorem dL_law_270 : decode cL_law 270 = .ok (.iadd, 1) := by decide +kernel
theorem dL_law_271 : decode cL_law 271 = .ok (.iaload, 1) := by decide +kernel
theorem dL_law_272 : decode cL_law 272 = .ok (.aload_n 0, 1) := by decide +kernel
theorem dL_law_273 : decode cL_law 273 = .ok (.iload_n 3, 1) := by decide +kernel
theorem dL_law_274 : decode cL_law 274 = .ok (.iconst 3, 1) := by decide +kernel
theorem dL_law_275 : decode cL_law 275 = .ok (.iadd, 1) := by decide +kernel
theorem dL_law_276 : decode cL_law 276 = .ok (.iaload, 1) := by decide +kernel
theorem dL_law_277 : decode cL_law 277 = .ok (.invokevirtual 27, 3) := by decide +kernel
theorem dL_law_280 : decode cL_law 280 = .ok (.aload_n 2, 1) := by decide +kernel
theorem dL_law_281 : decode cL_law 281 = .ok (.aload_n 0, 1) := by decide +kernel
theorem dL_law_282 : decode cL_law 282 = .ok (.iload_n 3, 1) := by decide +kernel
theorem dL_law_283 : decode cL_law 283 = .ok (.iconst 1, 1) := by decide +kernel
theorem dL_law_284 : decode cL_law 284 = .ok (.iadd, 1) := by decide +kernel
theorem dL_law_285 : decode cL_law 285 = .ok (.iaload, 1) := by decide +kernel
theorem dL_law_286 : decode cL_law 286 = .ok (.aload_n 0, 1) := by decide +kernel
theorem dL_law_287 : decode cL_law 287 = .ok (.iload_n 3, 1) := by decide +kernel
theorem dL_law_288 : decode cL_law 288 = .ok (.iconst 2, 1) := by decide +kernel
theorem dL_law_289 : decode cL_law 289 = .ok (.iadd, 1) := by decide +kernel
theorem dL_law_290 : decode cL_law 290 = .ok (.iaload, 1) := by decide +kernel
theorem dL_law_291 : decode cL_law 291 = .ok (.aload_n 0, 1) := by decide +kernel
theorem dL_law_292 : decode cL_law 292 = .ok (.iload_n 3, 1) := by decide +kernel
theorem dL_law_293 : decode cL_law 293 = .ok (.iconst 3, 1) := by decide +kernel
theorem dL_law_294 : decode cL_law 294 = .ok (.iadd, 1) := by decide +kernel
theorem dL_law_295 : decode cL_law 295 = .ok (.iaload, 1) := by decide +kernel
theorem dL_law_296 : decode cL_law 296 = .ok (.invokevirtual 31, 3) := by decide +kernel
theorem dL_law_299 : decode cL_law 299 = .ok (.if_icmp .eq 592, 3) := by decide +kernel
theorem dL_law_302 : decode cL_law 302 = .ok (.iconst 0, 1) := by decide +kernel
theorem dL_law_303 : decode cL_law 303 = .ok (.ireturn, 1) := by decide +kernel
theorem dL_law_304 : decode cL_law 304 = .ok (.aload_n 1, 1) := by decide +kernel
theorem dL_law_305 : decode cL_law 305 = .ok (.aload_n 0, 1) := by decide +kernel
theorem dL_law_306 : decode cL_law 306 = .ok (.iload_n 3, 1) := by decide +kernel
theorem dL_law_307 : decode cL_law 307 = .ok (.iconst 1, 1) := by decide +kernel
theorem dL_law_308 : decode cL_law 308 = .ok (.iadd, 1) := by decide +kernel
theorem dL_law_309 : decode cL_law 309 = .ok (.iaload, 1) := by decide +kernel
theorem dL_law_310 : decode cL_law 310 = .ok (.aload_n 0, 1) := by decide +kernel
theorem dL_law_311 : decode cL_law 311 = .ok (.iload_n 3, 1) := by decide +kernel
theorem dL_law_312 : decode cL_law 312 = .ok (.iconst 2, 1) := by decide +kernel
theorem dL_law_313 : decode cL_law 313 = .ok (.iadd, 1) := by decide +kernel
theorem dL_law_314 : decode cL_law 314 = .ok (.iaload, 1) := by decide +kernel
theorem dL_law_315 : decode cL_law 315 = .ok (.invokevirtual 32, 3) := by decide +kernel
theorem dL_law_318 : decode cL_law 318 = .ok (.aload_n 2, 1) := by decide +kernel
theorem dL_law_319 : decode cL_law 319 = .ok (.aload_n 0, 1) := by decide +kernel
theorem dL_law_320 : decode cL_law 320 = .ok (.iload_n 3, 1) := by decide +kernel
theorem dL_law_321 : decode cL_law 321 = .ok (.iconst 1, 1) := by decide +kernel
theorem dL_law_322 : decode cL_law 322 = .ok (.iadd, 1) := by decide +kernel
theorem dL_law_323 : decode cL_law 323 = .ok (.iaload, 1) := by decide +kernel
theorem dL_law_324 : decode cL_law 324 = .ok (.aload_n 0, 1) := by decide +kernel
theorem dL_law_325 : decode cL_law 325 = .ok (.iload_n 3, 1) := by decide +kernel
theorem dL_law_326 : decode cL_law 326 = .ok (.iconst 2, 1) := by decide +kernel
theorem dL_law_327 : decode cL_law 327 = .ok (.iadd, 1) := by decide +kernel
theorem dL_law_328 : decode cL_law 328 = .ok (.iaload, 1) := by decide +kernel
theorem dL_law_329 : decode cL_law 329 = .ok (.invokevirtual 36, 3) := by decide +kernel
theorem dL_law_332 : decode cL_law 332 = .ok (.if_icmp .eq 559, 3) := by decide +kernel
theorem dL_law_335 : decode cL_law 335 = .ok (.iconst 0, 1) := by decide +kernel
theorem dL_law_336 : decode cL_law 336 = .ok (.ireturn, 1) := by decide +kernel
theorem dL_law_337 : decode cL_law 337 = .ok (.aload_n 1, 1) := by decide +kernel
theorem dL_law_338 : decode cL_law 338 = .ok (.aload_n 0, 1) := by decide +kernel
theorem dL_law_339 : decode cL_law 339 = .ok (.iload_n 3, 1) := by decide +kernel
theorem dL_law_340 : decode cL_law 340 = .ok (.iconst 1, 1) := by decide +kernel
theorem dL_law_341 : decode cL_law 341 = .ok (.iadd, 1) := by decide +kernel
theorem dL_law_342 : decode cL_law 342 = .ok (.iaload, 1) := by decide +kernel
theorem dL_law_343 : decode cL_law 343 = .ok (.invokevirtual 37, 3) := by decide +kernel
theorem dL_law_346 : decode cL_law 346 = .ok (.aload_n 2, 1) := by decide +kernel
theorem dL_law_347 : decode cL_law 347 = .ok (.aload_n 0, 1) := by decide +kernel
theorem dL_law_348 : decode cL_law 348 = .ok (.iload_n 3, 1) := by decide +kernel
theorem dL_law_349 : decode cL_law 349 = .ok (.iconst 1, 1) := by decide +kernel
theorem dL_law_350 : decode cL_law 350 = .ok (.iadd, 1) := by decide +kernel
theorem dL_law_351 : decode cL_law 351 = .ok (.iaload, 1) := by decide +kernel
theorem dL_law_352 : decode cL_law 352 = .ok (.invokevirtual 40, 3) := by decide +kernel
theorem dL_law_355 : decode cL_law 355 = .ok (.if_icmp .eq 536, 3) := by decide +kernel
theorem dL_law_358 : decode cL_law 358 = .ok (.iconst 0, 1) := by decide +kernel
theorem dL_law_359 : decode cL_law 359 = .ok (.ireturn, 1) := by decide +kernel
theorem dL_law_360 : decode cL_law 360 = .ok (.aload_n 1, 1) := by decide +kernel
theorem dL_law_361 : decode cL_law 361 = .ok (.aload_n 0, 1) := by decide +kernel
theorem dL_law_362 : decode cL_law 362 = .ok (.iload_n 3, 1) := by decide +kernel
theorem dL_law_363 : decode cL_law 363 = .ok (.iconst 1, 1) := by decide +kernel
theorem dL_law_364 : decode cL_law 364 = .ok (.iadd, 1) := by decide +kernel
theorem dL_law_365 : decode cL_law 365 = .ok (.iaload, 1) := by decide +kernel
theorem dL_law_366 : decode cL_law 366 = .ok (.aload_n 0, 1) := by decide +kernel
theorem dL_law_367 : decode cL_law 367 = .ok (.iload_n 3, 1) := by decide +kernel
theorem dL_law_368 : decode cL_law 368 = .ok (.iconst 2, 1) := by decide +kernel
theorem dL_law_369 : decode cL_law 369 = .ok (.iadd, 1) := by decide +kernel
theorem dL_law_370 : decode cL_law 370 = .ok (.iaload, 1) := by decide +kernel
theorem dL_law_371 : decode cL_law 371 = .ok (.invokevirtual 41, 3) := by decide +kernel
theorem dL_law_374 : decode cL_law 374 = .ok (.aload_n 2, 1) := by decide +kernel
theorem dL_law_375 : decode cL_law 375 = .ok (.aload_n 0, 1) := by decide +kernel
theorem dL_law_376 : decode cL_law 376 = .ok (.iload_n 3, 1) := by decide +kernel
theorem dL_law_377 : decode cL_law 377 = .ok (.iconst 1, 1) := by decide +kernel
theorem dL_law_378 : decode cL_law 378 = .ok (.iadd, 1) := by decide +kernel
theorem dL_law_379 : decode cL_law 379 = .ok (.iaload, 1) := by decide +kernel
theorem dL_law_380 : decode cL_law 380 = .ok (.aload_n 0, 1) := by decide +kernel
theorem dL_law_381 : decode cL_law 381 = .ok (.iload_n 3, 1) := by decide +kernel
theorem dL_law_382 : decode cL_law 382 = .ok (.iconst 2, 1) := by decide +kernel
theorem dL_law_383 : decode cL_law 383 = .ok (.iadd, 1) := by decide +kernel
theorem dL_law_384 : decode cL_law 384 = .ok (.iaload, 1) := by decide +kernel
theorem dL_law_385 : decode cL_law 385 = .ok (.invokevirtual 44, 3) := by decide +kernel
theorem dL_law_388 : decode cL_law 388 = .ok (.if_icmp .eq 503, 3) := by decide +kernel
theorem dL_law_391 : decode cL_law 391 = .ok (.iconst 0, 1) := by decide +kernel
theorem dL_law_392 : decode cL_law 392 = .ok (.ireturn, 1) := by decide +kernel
theorem dL_law_393 : decode cL_law 393 = .ok (.aload_n 1, 1) := by decide +kernel
theorem dL_law_394 : decode cL_law 394 = .ok (.aload_n 0, 1) := by decide +kernel
theorem dL_law_395 : decode cL_law 395 = .ok (.iload_n 3, 1) := by decide +kernel
theorem dL_law_396 : decode cL_law 396 = .ok (.iconst 1, 1) := by decide +kernel
theorem dL_law_397 : decode cL_law 397 = .ok (.iadd, 1) := by decide +kernel
theorem dL_law_398 : decode cL_law 398 = .ok (.iaload, 1) := by decide +kernel
theorem dL_law_399 : decode cL_law 399 = .ok (.aload_n 0, 1) := by decide +kernel
theorem dL_law_400 : decode cL_law 400 = .ok (.iload_n 3, 1) := by decide +kernel
theorem dL_law_401 : decode cL_law 401 = .ok (.iconst 2, 1) := by decide +kernel
theorem dL_law_402 : decode cL_law 402 = .ok (.iadd, 1) := by decide +kernel
theorem dL_law_403 : decode cL_law 403 = .ok (.iaload, 1) := by decide +kernel
theorem dL_law_404 : decode cL_law 404 = .ok (.invokevirtual 45, 3) := by decide +kernel
theorem dL_law_407 : decode cL_law 407 = .ok (.aload_n 2, 1) := by decide +kernel
theorem dL_law_408 : decode cL_law 408 = .ok (.aload_n 0, 1) := by decide +kernel
theorem dL_law_409 : decode cL_law 409 = .ok (.iload_n 3, 1) := by decide +kernel
theorem dL_law_410 : decode cL_law 410 = .ok (.iconst 1, 1) := by decide +kernel
theorem dL_law_411 : decode cL_law 411 = .ok (.iadd, 1) := by decide +kernel
theorem dL_law_412 : decode cL_law 412 = .ok (.iaload, 1) := by decide +kernel
theorem dL_law_413 : decode cL_law 413 = .ok (.aload_n 0, 1) := by decide +kernel
theorem dL_law_414 : decode cL_law 414 = .ok (.iload_n 3, 1) := by decide +kernel
theorem dL_law_415 : decode cL_law 415 = .ok (.iconst 2, 1) := by decide +kernel
theorem dL_law_416 : decode cL_law 416 = .ok (.iadd, 1) := by decide +kernel
theorem dL_law_417 : decode cL_law 417 = .ok (.iaload, 1) := by decide +kernel
theorem dL_law_418 : decode cL_law 418 = .ok (.invokevirtual 48, 3) := by decide +kernel
theorem dL_law_421 : decode cL_law 421 = .ok (.if_icmp .eq 470, 3) := by decide +kernel
theorem dL_law_424 : decode cL_law 424 = .ok (.iconst 0, 1) := by decide +kernel
theorem dL_law_425 : decode cL_law 425 = .ok (.ireturn, 1) := by decide +kernel
theorem dL_law_426 : decode cL_law 426 = .ok (.aload_n 1, 1) := by decide +kernel
theorem dL_law_427 : decode cL_law 427 = .ok (.aload_n 0, 1) := by decide +kernel
theorem dL_law_428 : decode cL_law 428 = .ok (.iload_n 3, 1) := by decide +kernel
theorem dL_law_429 : decode cL_law 429 = .ok (.iconst 1, 1) := by decide +kernel
theorem dL_law_430 : decode cL_law 430 = .ok (.iadd, 1) := by decide +kernel
theorem dL_law_431 : decode cL_law 431 = .ok (.iaload, 1) := by decide +kernel
theorem dL_law_432 : decode cL_law 432 = .ok (.aload_n 0, 1) := by decide +kernel
theorem dL_law_433 : decode cL_law 433 = .ok (.iload_n 3, 1) := by decide +kernel
theorem dL_law_434 : decode cL_law 434 = .ok (.iconst 2, 1) := by decide +kernel
theorem dL_law_435 : decode cL_law 435 = .ok (.iadd, 1) := by decide +kernel
theorem dL_law_436 : decode cL_law 436 = .ok (.iaload, 1) := by decide +kernel
theorem dL_law_437 : decode cL_law 437 = .ok (.invokevirtual 49, 3) := by decide +kernel
theorem dL_law_440 : decode cL_law 440 = .ok (.aload_n 2, 1) := by decide +kernel
theorem dL_law_441 : decode cL_law 441 = .ok (.aload_n 0, 1) := by decide +kernel
theorem dL_law_442 : decode cL_law 442 = .ok (.iload_n 3, 1) := by decide +kernel
theorem dL_law_443 : decode cL_law 443 = .ok (.iconst 1, 1) := by decide +kernel
theorem dL_law_444 : decode cL_law 444 = .ok (.iadd, 1) := by decide +kernel
theorem dL_law_445 : decode cL_law 445 = .ok (.iaload, 1) := by decide +kernel
theorem dL_law_446 : decode cL_law 446 = .ok (.aload_n 0, 1) := by decide +kernel
theorem dL_law_447 : decode cL_law 447 = .ok (.iload_n 3, 1) := by decide +kernel
theorem dL_law_448 : decode cL_law 448 = .ok (.iconst 2, 1) := by decide +kernel
theorem dL_law_449 : decode cL_law 449 = .ok (.iadd, 1) := by decide +kernel
theorem dL_law_450 : decode cL_law 450 = .ok (.iaload, 1) := by decide +kernel
theorem dL_law_451 : decode cL_law 451 = .ok (.invokevirtual 52, 3) := by decide +kernel
theorem dL_law_454 : decode cL_law 454 = .ok (.if_icmp .eq 437, 3) := by decide +kernel
theorem dL_law_457 : decode cL_law 457 = .ok (.iconst 0, 1) := by decide +kernel
theorem dL_law_458 : decode cL_law 458 = .ok (.ireturn, 1) := by decide +kernel
theorem dL_law_459 : decode cL_law 459 = .ok (.aload_n 1, 1) := by decide +kernel
theorem dL_law_460 : decode cL_law 460 = .ok (.aload_n 0, 1) := by decide +kernel
theorem dL_law_461 : decode cL_law 461 = .ok (.iload_n 3, 1) := by decide +kernel
theorem dL_law_462 : decode cL_law 462 = .ok (.iconst 1, 1) := by decide +kernel
theorem dL_law_463 : decode cL_law 463 = .ok (.iadd, 1) := by decide +kernel
theorem dL_law_464 : decode cL_law 464 = .ok (.iaload, 1) := by decide +kernel
theorem dL_law_465 : decode cL_law 465 = .ok (.invokevirtual 53, 3) := by decide +kernel
theorem dL_law_468 : decode cL_law 468 = .ok (.aload_n 2, 1) := by decide +kernel
theorem dL_law_469 : decode cL_law 469 = .ok (.aload_n 0, 1) := by decide +kernel
theorem dL_law_470 : decode cL_law 470 = .ok (.iload_n 3, 1) := by decide +kernel
theorem dL_law_471 : decode cL_law 471 = .ok (.iconst 1, 1) := by decide +kernel
theorem dL_law_472 : decode cL_law 472 = .ok (.iadd, 1) := by decide +kernel
theorem dL_law_473 : decode cL_law 473 = .ok (.iaload, 1) := by decide +kernel
theorem dL_law_474 : decode cL_law 474 = .ok (.invokevirtual 56, 3) := by decide +kernel
theorem dL_law_477 : decode cL_law 477 = .ok (.if_icmp .eq 414, 3) := by decide +kernel
theorem dL_law_480 : decode cL_law 480 = .ok (.iconst 0, 1) := by decide +kernel
theorem dL_law_481 : decode cL_law 481 = .ok (.ireturn, 1) := by decide +kernel
theorem dL_law_482 : decode cL_law 482 = .ok (.aload_n 1, 1) := by decide +kernel
theorem dL_law_483 : decode cL_law 483 = .ok (.invokevirtual 57, 3) := by decide +kernel
theorem dL_law_486 : decode cL_law 486 = .ok (.aload_n 2, 1) := by decide +kernel
theorem dL_law_487 : decode cL_law 487 = .ok (.invokevirtual 61, 3) := by decide +kernel
theorem dL_law_490 : decode cL_law 490 = .ok (.if_icmp .eq 401, 3) := by decide +kernel
theorem dL_law_493 : decode cL_law 493 = .ok (.iconst 0, 1) := by decide +kernel
theorem dL_law_494 : decode cL_law 494 = .ok (.ireturn, 1) := by decide +kernel
theorem dL_law_495 : decode cL_law 495 = .ok (.aload_n 1, 1) := by decide +kernel
theorem dL_law_496 : decode cL_law 496 = .ok (.invokevirtual 62, 3) := by decide +kernel
theorem dL_law_499 : decode cL_law 499 = .ok (.aload_n 2, 1) := by decide +kernel
theorem dL_law_500 : decode cL_law 500 = .ok (.invokevirtual 65, 3) := by decide +kernel
theorem dL_law_503 : decode cL_law 503 = .ok (.if_icmp .eq 388, 3) := by decide +kernel
theorem dL_law_506 : decode cL_law 506 = .ok (.iconst 0, 1) := by decide +kernel
theorem dL_law_507 : decode cL_law 507 = .ok (.ireturn, 1) := by decide +kernel
theorem dL_law_508 : decode cL_law 508 = .ok (.aload_n 1, 1) := by decide +kernel
theorem dL_law_509 : decode cL_law 509 = .ok (.invokevirtual 66, 3) := by decide +kernel
theorem dL_law_512 : decode cL_law 512 = .ok (.aload_n 2, 1) := by decide +kernel
theorem dL_law_513 : decode cL_law 513 = .ok (.invokevirtual 69, 3) := by decide +kernel
theorem dL_law_516 : decode cL_law 516 = .ok (.if_icmp .eq 375, 3) := by decide +kernel
theorem dL_law_519 : decode cL_law 519 = .ok (.iconst 0, 1) := by decide +kernel
theorem dL_law_520 : decode cL_law 520 = .ok (.ireturn, 1) := by decide +kernel
theorem dL_law_521 : decode cL_law 521 = .ok (.aload_n 1, 1) := by decide +kernel
theorem dL_law_522 : decode cL_law 522 = .ok (.aload_n 0, 1) := by decide +kernel
theorem dL_law_523 : decode cL_law 523 = .ok (.iload_n 3, 1) := by decide +kernel
theorem dL_law_524 : decode cL_law 524 = .ok (.iconst 1, 1) := by decide +kernel
theorem dL_law_525 : decode cL_law 525 = .ok (.iadd, 1) := by decide +kernel
theorem dL_law_526 : decode cL_law 526 = .ok (.iaload, 1) := by decide +kernel
theorem dL_law_527 : decode cL_law 527 = .ok (.invokevirtual 70, 3) := by decide +kernel
theorem dL_law_530 : decode cL_law 530 = .ok (.aload_n 2, 1) := by decide +kernel
theorem dL_law_531 : decode cL_law 531 = .ok (.aload_n 0, 1) := by decide +kernel
theorem dL_law_532 : decode cL_law 532 = .ok (.iload_n 3, 1) := by decide +kernel
theorem dL_law_533 : decode cL_law 533 = .ok (.iconst 1, 1) := by decide +kernel
theorem dL_law_534 : decode cL_law 534 = .ok (.iadd, 1) := by decide +kernel
theorem dL_law_535 : decode cL_law 535 = .ok (.iaload, 1) := by decide +kernel
theorem dL_law_536 : decode cL_law 536 = .ok (.invokevirtual 73, 3) := by decide +kernel
theorem dL_law_539 : decode cL_law 539 = .ok (.if_icmp .eq 352, 3) := by decide +kernel
theorem dL_law_542 : decode cL_law 542 = .ok (.iconst 0, 1) := by decide +kernel
theorem dL_law_543 : decode cL_law 543 = .ok (.ireturn, 1) := by decide +kernel
theorem dL_law_544 : decode cL_law 544 = .ok (.aload_n 1, 1) := by decide +kernel
theorem dL_law_545 : decode cL_law 545 = .ok (.aload_n 0, 1) := by decide +kernel
theorem dL_law_546 : decode cL_law 546 = .ok (.iload_n 3, 1) := by decide +kernel
theorem dL_law_547 : decode cL_law 547 = .ok (.iconst 1, 1) := by decide +kernel
theorem dL_law_548 : decode cL_law 548 = .ok (.iadd, 1) := by decide +kernel
theorem dL_law_549 : decode cL_law 549 = .ok (.iaload, 1) := by decide +kernel
theorem dL_law_550 : decode cL_law 550 = .ok (.aload_n 0, 1) := by decide +kernel
theorem dL_law_551 : decode cL_law 551 = .ok (.iload_n 3, 1) := by decide +kernel
theorem dL_law_552 : decode cL_law 552 = .ok (.iconst 2, 1) := by decide +kernel
theorem dL_law_553 : decode cL_law 553 = .ok (.iadd, 1) := by decide +kernel
theorem dL_law_554 : decode cL_law 554 = .ok (.iaload, 1) := by decide +kernel
theorem dL_law_555 : decode cL_law 555 = .ok (.invokevirtual 74, 3) := by decide +kernel
theorem dL_law_558 : decode cL_law 558 = .ok (.aload_n 2, 1) := by decide +kernel
theorem dL_law_559 : decode cL_law 559 = .ok (.aload_n 0, 1) := by decide +kernel
theorem dL_law_560 : decode cL_law 560 = .ok (.iload_n 3, 1) := by decide +kernel
theorem dL_law_561 : decode cL_law 561 = .ok (.iconst 1, 1) := by decide +kernel
theorem dL_law_562 : decode cL_law 562 = .ok (.iadd, 1) := by decide +kernel
theorem dL_law_563 : decode cL_law 563 = .ok (.iaload, 1) := by decide +kernel
theorem dL_law_564 : decode cL_law 564 = .ok (.aload_n 0, 1) := by decide +kernel
theorem dL_law_565 : decode cL_law 565 = .ok (.iload_n 3, 1) := by decide +kernel
theorem dL_law_566 : decode cL_law 566 = .ok (.iconst 2, 1) := by decide +kernel
theorem dL_law_567 : decode cL_law 567 = .ok (.iadd, 1) := by decide +kernel
theorem dL_law_568 : decode cL_law 568 = .ok (.iaload, 1) := by decide +kernel
theorem dL_law_569 : decode cL_law 569 = .ok (.invokevirtual 77, 3) := by decide +kernel
theorem dL_law_572 : decode cL_law 572 = .ok (.if_icmp .eq 319, 3) := by decide +kernel
theorem dL_law_575 : decode cL_law 575 = .ok (.iconst 0, 1) := by decide +kernel
theorem dL_law_576 : decode cL_law 576 = .ok (.ireturn, 1) := by decide +kernel
theorem dL_law_577 : decode cL_law 577 = .ok (.aload_n 1, 1) := by decide +kernel
theorem dL_law_578 : decode cL_law 578 = .ok (.aload_n 0, 1) := by decide +kernel
theorem dL_law_579 : decode cL_law 579 = .ok (.iload_n 3, 1) := by decide +kernel
theorem dL_law_580 : decode cL_law 580 = .ok (.iconst 1, 1) := by decide +kernel
theorem dL_law_581 : decode cL_law 581 = .ok (.iadd, 1) := by decide +kernel
theorem dL_law_582 : decode cL_law 582 = .ok (.iaload, 1) := by decide +kernel
theorem dL_law_583 : decode cL_law 583 = .ok (.aload_n 0, 1) := by decide +kernel
theorem dL_law_584 : decode cL_law 584 = .ok (.iload_n 3, 1) := by decide +kernel
theorem dL_law_585 : decode cL_law 585 = .ok (.iconst 2, 1) := by decide +kernel
theorem dL_law_586 : decode cL_law 586 = .ok (.iadd, 1) := by decide +kernel
theorem dL_law_587 : decode cL_law 587 = .ok (.iaload, 1) := by decide +kernel
theorem dL_law_588 : decode cL_law 588 = .ok (.invokevirtual 78, 3) := by decide +kernel
theorem dL_law_591 : decode cL_law 591 = .ok (.aload_n 2, 1) := by decide +kernel
theorem dL_law_592 : decode cL_law 592 = .ok (.aload_n 0, 1) := by decide +kernel
theorem dL_law_593 : decode cL_law 593 = .ok (.iload_n 3, 1) := by decide +kernel
theorem dL_law_594 : decode cL_law 594 = .ok (.iconst 1, 1) := by decide +kernel
theorem dL_law_595 : decode cL_law 595 = .ok (.iadd, 1) := by decide +kernel
theorem dL_law_596 : decode cL_law 596 = .ok (.iaload, 1) := by decide +kernel
theorem dL_law_597 : decode cL_law 597 = .ok (.aload_n 0, 1) := by decide +kernel
theorem dL_law_598 : decode cL_law 598 = .ok (.iload_n 3, 1) := by decide +kernel
theorem dL_law_599 : decode cL_law 599 = .ok (.iconst 2, 1) := by decide +kernel
theorem dL_law_600 : decode cL_law 600 = .ok (.iadd, 1) := by decide +kernel
theorem dL_law_601 : decode cL_law 601 = .ok (.iaload, 1) := by decide +kernel
theorem dL_law_602 : decode cL_law 602 = .ok (.invokevirtual 81, 3) := by decide +kernel
theorem dL_law_605 : decode cL_law 605 = .ok (.if_icmp .eq 286, 3) := by decide +kernel
theorem dL_law_608 : decode cL_law 608 = .ok (.iconst 0, 1) := by decide +kernel
theorem dL_law_609 : decode cL_law 609 = .ok (.ireturn, 1) := by decide +kernel
theorem dL_law_610 : decode cL_law 610 = .ok (.aload_n 1, 1) := by decide +kernel
theorem dL_law_611 : decode cL_law 611 = .ok (.aload_n 0, 1) := by decide +kernel
theorem dL_law_612 : decode cL_law 612 = .ok (.iload_n 3, 1) := by decide +kernel
theorem dL_law_613 : decode cL_law 613 = .ok (.iconst 1, 1) := by decide +kernel
theorem dL_law_614 : decode cL_law 614 = .ok (.iadd, 1) := by decide +kernel
theorem dL_law_615 : decode cL_law 615 = .ok (.iaload, 1) := by decide +kernel
theorem dL_law_616 : decode cL_law 616 = .ok (.aload_n 0, 1) := by decide +kernel
theorem dL_law_617 : decode cL_law 617 = .ok (.iload_n 3, 1) := by decide +kernel
theorem dL_law_618 : decode cL_law 618 = .ok (.iconst 2, 1) := by decide +kernel
theorem dL_law_619 : decode cL_law 619 = .ok (.iadd, 1) := by decide +kernel
theorem dL_law_620 : decode cL_law 620 = .ok (.iaload, 1) := by decide +kernel
theorem dL_law_621 : decode cL_law 621 = .ok (.invokevirtual 82, 3) := by decide +kernel
theorem dL_law_624 : decode cL_law 624 = .ok (.aload_n 2, 1) := by decide +kernel
theorem dL_law_625 : decode cL_law 625 = .ok (.aload_n 0, 1) := by decide +kernel
theorem dL_law_626 : decode cL_law 626 = .ok (.iload_n 3, 1) := by decide +kernel
theorem dL_law_627 : decode cL_law 627 = .ok (.iconst 1, 1) := by decide +kernel
theorem dL_law_628 : decode cL_law 628 = .ok (.iadd, 1) := by decide +kernel
theorem dL_law_629 : decode cL_law 629 = .ok (.iaload, 1) := by decide +kernel
theorem dL_law_630 : decode cL_law 630 = .ok (.aload_n 0, 1) := by decide +kernel
theorem dL_law_631 : decode cL_law 631 = .ok (.iload_n 3, 1) := by decide +kernel
theorem dL_law_632 : decode cL_law 632 = .ok (.iconst 2, 1) := by decide +kernel
theorem dL_law_633 : decode cL_law 633 = .ok (.iadd, 1) := by decide +kernel
theorem dL_law_634 : decode cL_law 634 = .ok (.iaload, 1) := by decide +kernel
theorem dL_law_635 : decode cL_law 635 = .ok (.invokevirtual 85, 3) := by decide +kernel
theorem dL_law_638 : decode cL_law 638 = .ok (.if_icmp .eq 253, 3) := by decide +kernel
theorem dL_law_641 : decode cL_law 641 = .ok (.iconst 0, 1) := by decide +kernel
theorem dL_law_642 : decode cL_law 642 = .ok (.ireturn, 1) := by decide +kernel
theorem dL_law_643 : decode cL_law 643 = .ok (.aload_n 1, 1) := by decide +kernel
theorem dL_law_644 : decode cL_law 644 = .ok (.aload_n 0, 1) := by decide +kernel
theorem dL_law_645 : decode cL_law 645 = .ok (.iload_n 3, 1) := by decide +kernel
theorem dL_law_646 : decode cL_law 646 = .ok (.iconst 1, 1) := by decide +kernel
theorem dL_law_647 : decode cL_law 647 = .ok (.iadd, 1) := by decide +kernel
theorem dL_law_648 : decode cL_law 648 = .ok (.iaload, 1) := by decide +kernel
theorem dL_law_649 : decode cL_law 649 = .ok (.invokevirtual 86, 3) := by decide +kernel
theorem dL_law_652 : decode cL_law 652 = .ok (.aload_n 2, 1) := by decide +kernel
theorem dL_law_653 : decode cL_law 653 = .ok (.aload_n 0, 1) := by decide +kernel
theorem dL_law_654 : decode cL_law 654 = .ok (.iload_n 3, 1) := by decide +kernel
theorem dL_law_655 : decode cL_law 655 = .ok (.iconst 1, 1) := by decide +kernel
theorem dL_law_656 : decode cL_law 656 = .ok (.iadd, 1) := by decide +kernel
theorem dL_law_657 : decode cL_law 657 = .ok (.iaload, 1) := by decide +kernel
theorem dL_law_658 : decode cL_law 658 = .ok (.invokevirtual 89, 3) := by decide +kernel
theorem dL_law_661 : decode cL_law 661 = .ok (.if_icmp .eq 230, 3) := by decide +kernel
theorem dL_law_664 : decode cL_law 664 = .ok (.iconst 0, 1) := by decide +kernel
theorem dL_law_665 : decode cL_law 665 = .ok (.ireturn, 1) := by decide +kernel
theorem dL_law_666 : decode cL_law 666 = .ok (.aload_n 1, 1) := by decide +kernel
theorem dL_law_667 : decode cL_law 667 = .ok (.aload_n 0, 1) := by decide +kernel
theorem dL_law_668 : decode cL_law 668 = .ok (.iload_n 3, 1) := by decide +kernel
theorem dL_law_669 : decode cL_law 669 = .ok (.iconst 1, 1) := by decide +kernel
theorem dL_law_670 : decode cL_law 670 = .ok (.iadd, 1) := by decide +kernel
theorem dL_law_671 : decode cL_law 671 = .ok (.iaload, 1) := by decide +kernel
theorem dL_law_672 : decode cL_law 672 = .ok (.invokevirtual 90, 3) := by decide +kernel
theorem dL_law_675 : decode cL_law 675 = .ok (.aload_n 2, 1) := by decide +kernel
theorem dL_law_676 : decode cL_law 676 = .ok (.aload_n 0, 1) := by decide +kernel
theorem dL_law_677 : decode cL_law 677 = .ok (.iload_n 3, 1) := by decide +kernel
theorem dL_law_678 : decode cL_law 678 = .ok (.iconst 1, 1) := by decide +kernel
theorem dL_law_679 : decode cL_law 679 = .ok (.iadd, 1) := by decide +kernel
theorem dL_law_680 : decode cL_law 680 = .ok (.iaload, 1) := by decide +kernel
theorem dL_law_681 : decode cL_law 681 = .ok (.invokevirtual 93, 3) := by decide +kernel
theorem dL_law_684 : decode cL_law 684 = .ok (.if_icmp .eq 207, 3) := by decide +kernel
theorem dL_law_687 : decode cL_law 687 = .ok (.iconst 0, 1) := by decide +kernel
theorem dL_law_688 : decode cL_law 688 = .ok (.ireturn, 1) := by decide +kernel
theorem dL_law_689 : decode cL_law 689 = .ok (.aload_n 1, 1) := by decide +kernel
theorem dL_law_690 : decode cL_law 690 = .ok (.aload_n 0, 1) := by decide +kernel
theorem dL_law_691 : decode cL_law 691 = .ok (.iload_n 3, 1) := by decide +kernel
theorem dL_law_692 : decode cL_law 692 = .ok (.iconst 1, 1) := by decide +kernel
theorem dL_law_693 : decode cL_law 693 = .ok (.iadd, 1) := by decide +kernel
theorem dL_law_694 : decode cL_law 694 = .ok (.iaload, 1) := by decide +kernel
theorem dL_law_695 : decode cL_law 695 = .ok (.invokevirtual 94, 3) := by decide +kernel
theorem dL_law_698 : decode cL_law 698 = .ok (.aload_n 2, 1) := by decide +kernel
theorem dL_law_699 : decode cL_law 699 = .ok (.aload_n 0, 1) := by decide +kernel
theorem dL_law_700 : decode cL_law 700 = .ok (.iload_n 3, 1) := by decide +kernel
theorem dL_law_701 : decode cL_law 701 = .ok (.iconst 1, 1) := by decide +kernel
theorem dL_law_702 : decode cL_law 702 = .ok (.iadd, 1) := by decide +kernel
theorem dL_law_703 : decode cL_law 703 = .ok (.iaload, 1) := by decide +kernel
theorem dL_law_704 : decode cL_law 704 = .ok (.invokevirtual 97, 3) := by decide +kernel
theorem dL_law_707 : decode cL_law 707 = .ok (.if_icmp .eq 184, 3) := by decide +kernel
theorem dL_law_710 : decode cL_law 710 = .ok (.iconst 0, 1) := by decide +kernel
theorem dL_law_711 : decode cL_law 711 = .ok (.ireturn, 1) := by decide +kernel
theorem dL_law_712 : decode cL_law 712 = .ok (.aload_n 1, 1) := by decide +kernel
theorem dL_law_713 : decode cL_law 713 = .ok (.aload_n 0, 1) := by decide +kernel
theorem dL_law_714 : decode cL_law 714 = .ok (.iload_n 3, 1) := by decide +kernel
theorem dL_law_715 : decode cL_law 715 = .ok (.iconst 1, 1) := by decide +kernel
theorem dL_law_716 : decode cL_law 716 = .ok (.iadd, 1) := by decide +kernel
theorem dL_law_717 : decode cL_law 717 = .ok (.iaload, 1) := by decide +kernel
theorem dL_law_718 : decode cL_law 718 = .ok (.aload_n 0, 1) := by decide +kernel
theorem dL_law_719 : decode cL_law 719 = .ok (.iload_n 3, 1) := by decide +kernel
theorem dL_law_720 : decode cL_law 720 = .ok (.iconst 2, 1) := by decide +kernel
theorem dL_law_721 : decode cL_law 721 = .ok (.iadd, 1) := by decide +kernel
theorem dL_law_722 : decode cL_law 722 = .ok (.iaload, 1) := by decide +kernel
theorem dL_law_723 : decode cL_law 723 = .ok (.aload_n 0, 1) := by decide +kernel
theorem dL_law_724 : decode cL_law 724 = .ok (.iload_n 3, 1) := by decide +kernel
theorem dL_law_725 : decode cL_law 725 = .ok (.iconst 3, 1) := by decide +kernel
theorem dL_law_726 : decode cL_law 726 = .ok (.iadd, 1) := by decide +kernel
theorem dL_law_727 : decode cL_law 727 = .ok (.iaload, 1) := by decide +kernel
theorem dL_law_728 : decode cL_law 728 = .ok (.invokevirtual 98, 3) := by decide +kernel
theorem dL_law_731 : decode cL_law 731 = .ok (.aload_n 2, 1) := by decide +kernel
theorem dL_law_732 : decode cL_law 732 = .ok (.aload_n 0, 1) := by decide +kernel
theorem dL_law_733 : decode cL_law 733 = .ok (.iload_n 3, 1) := by decide +kernel
theorem dL_law_734 : decode cL_law 734 = .ok (.iconst 1, 1) := by decide +kernel
theorem dL_law_735 : decode cL_law 735 = .ok (.iadd, 1) := by decide +kernel
theorem dL_law_736 : decode cL_law 736 = .ok (.iaload, 1) := by decide +kernel
theorem dL_law_737 : decode cL_law 737 = .ok (.aload_n 0, 1) := by decide +kernel
theorem dL_law_738 : decode cL_law 738 = .ok (.iload_n 3, 1) := by decide +kernel
theorem dL_law_739 : decode cL_law 739 = .ok (.iconst 2, 1) := by decide +kernel
theorem dL_law_740 : decode cL_law 740 = .ok (.iadd, 1) := by decide +kernel
theorem dL_law_741 : decode cL_law 741 = .ok (.iaload, 1) := by decide +kernel
theorem dL_law_742 : decode cL_law 742 = .ok (.aload_n 0, 1) := by decide +kernel
theorem dL_law_743 : decode cL_law 743 = .ok (.iload_n 3, 1) := by decide +kernel
theorem dL_law_744 : decode cL_law 744 = .ok (.iconst 3, 1) := by decide +kernel
theorem dL_law_745 : decode cL_law 745 = .ok (.iadd, 1) := by decide +kernel
theorem dL_law_746 : decode cL_law 746 = .ok (.iaload, 1) := by decide +kernel
theorem dL_law_747 : decode cL_law 747 = .ok (.invokevirtual 101, 3) := by decide +kernel
theorem dL_law_750 : decode cL_law 750 = .ok (.if_icmp .eq 141, 3) := by decide +kernel
theorem dL_law_753 : decode cL_law 753 = .ok (.iconst 0, 1) := by decide +kernel
theorem dL_law_754 : decode cL_law 754 = .ok (.ireturn, 1) := by decide +kernel
theorem dL_law_755 : decode cL_law 755 = .ok (.aload_n 1, 1) := by decide +kernel
theorem dL_law_756 : decode cL_law 756 = .ok (.aload_n 0, 1) := by decide +kernel
theorem dL_law_757 : decode cL_law 757 = .ok (.iload_n 3, 1) := by decide +kernel
theorem dL_law_758 : decode cL_law 758 = .ok (.iconst 1, 1) := by decide +kernel
theorem dL_law_759 : decode cL_law 759 = .ok (.iadd, 1) := by decide +kernel
theorem dL_law_760 : decode cL_law 760 = .ok (.iaload, 1) := by decide +kernel
theorem dL_law_761 : decode cL_law 761 = .ok (.invokevirtual 102, 3) := by decide +kernel
theorem dL_law_764 : decode cL_law 764 = .ok (.aload_n 2, 1) := by decide +kernel
theorem dL_law_765 : decode cL_law 765 = .ok (.aload_n 0, 1) := by decide +kernel
theorem dL_law_766 : decode cL_law 766 = .ok (.iload_n 3, 1) := by decide +kernel
theorem dL_law_767 : decode cL_law 767 = .ok (.iconst 1, 1) := by decide +kernel
theorem dL_law_768 : decode cL_law 768 = .ok (.iadd, 1) := by decide +kernel
theorem dL_law_769 : decode cL_law 769 = .ok (.iaload, 1) := by decide +kernel
theorem dL_law_770 : decode cL_law 770 = .ok (.invokevirtual 105, 3) := by decide +kernel
theorem dL_law_773 : decode cL_law 773 = .ok (.if_icmp .eq 118, 3) := by decide +kernel
theorem dL_law_776 : decode cL_law 776 = .ok (.iconst 0, 1) := by decide +kernel
theorem dL_law_777 : decode cL_law 777 = .ok (.ireturn, 1) := by decide +kernel
theorem dL_law_778 : decode cL_law 778 = .ok (.aload_n 1, 1) := by decide +kernel
theorem dL_law_779 : decode cL_law 779 = .ok (.invokevirtual 106, 3) := by decide +kernel
theorem dL_law_782 : decode cL_law 782 = .ok (.dstore 4, 2) := by decide +kernel
theorem dL_law_784 : decode cL_law 784 = .ok (.aload_n 2, 1) := by decide +kernel
theorem dL_law_785 : decode cL_law 785 = .ok (.invokevirtual 110, 3) := by decide +kernel
theorem dL_law_788 : decode cL_law 788 = .ok (.dstore 6, 2) := by decide +kernel
theorem dL_law_790 : decode cL_law 790 = .ok (.dload 4, 2) := by decide +kernel
theorem dL_law_792 : decode cL_law 792 = .ok (.dload 6, 2) := by decide +kernel
theorem dL_law_794 : decode cL_law 794 = .ok (.dcmp .l, 1) := by decide +kernel
theorem dL_law_795 : decode cL_law 795 = .ok (.ifCond .eq 21, 3) := by decide +kernel
theorem dL_law_798 : decode cL_law 798 = .ok (.dload 4, 2) := by decide +kernel
theorem dL_law_800 : decode cL_law 800 = .ok (.dload 4, 2) := by decide +kernel
theorem dL_law_802 : decode cL_law 802 = .ok (.dcmp .l, 1) := by decide +kernel
theorem dL_law_803 : decode cL_law 803 = .ok (.ifCond .eq 11, 3) := by decide +kernel
theorem dL_law_806 : decode cL_law 806 = .ok (.dload 6, 2) := by decide +kernel
theorem dL_law_808 : decode cL_law 808 = .ok (.dload 6, 2) := by decide +kernel
theorem dL_law_810 : decode cL_law 810 = .ok (.dcmp .l, 1) := by decide +kernel
theorem dL_law_811 : decode cL_law 811 = .ok (.ifCond .ne 5, 3) := by decide +kernel
theorem dL_law_814 : decode cL_law 814 = .ok (.iconst 0, 1) := by decide +kernel
theorem dL_law_815 : decode cL_law 815 = .ok (.ireturn, 1) := by decide +kernel
theorem dL_law_816 : decode cL_law 816 = .ok (.goto 75, 3) := by decide +kernel
theorem dL_law_819 : decode cL_law 819 = .ok (.aload_n 1, 1) := by decide +kernel
theorem dL_law_820 : decode cL_law 820 = .ok (.aload_n 0, 1) := by decide +kernel
theorem dL_law_821 : decode cL_law 821 = .ok (.iload_n 3, 1) := by decide +kernel
theorem dL_law_822 : decode cL_law 822 = .ok (.iconst 1, 1) := by decide +kernel
theorem dL_law_823 : decode cL_law 823 = .ok (.iadd, 1) := by decide +kernel
theorem dL_law_824 : decode cL_law 824 = .ok (.iaload, 1) := by decide +kernel
theorem dL_law_825 : decode cL_law 825 = .ok (.aload_n 0, 1) := by decide +kernel
theorem dL_law_826 : decode cL_law 826 = .ok (.iload_n 3, 1) := by decide +kernel
theorem dL_law_827 : decode cL_law 827 = .ok (.iconst 2, 1) := by decide +kernel
theorem dL_law_828 : decode cL_law 828 = .ok (.iadd, 1) := by decide +kernel
theorem dL_law_829 : decode cL_law 829 = .ok (.iaload, 1) := by decide +kernel
theorem dL_law_830 : decode cL_law 830 = .ok (.invokevirtual 111, 3) := by decide +kernel
theorem dL_law_833 : decode cL_law 833 = .ok (.aload_n 2, 1) := by decide +kernel
theorem dL_law_834 : decode cL_law 834 = .ok (.aload_n 0, 1) := by decide +kernel
theorem dL_law_835 : decode cL_law 835 = .ok (.iload_n 3, 1) := by decide +kernel
theorem dL_law_836 : decode cL_law 836 = .ok (.iconst 1, 1) := by decide +kernel
theorem dL_law_837 : decode cL_law 837 = .ok (.iadd, 1) := by decide +kernel
theorem dL_law_838 : decode cL_law 838 = .ok (.iaload, 1) := by decide +kernel
theorem dL_law_839 : decode cL_law 839 = .ok (.aload_n 0, 1) := by decide +kernel
theorem dL_law_840 : decode cL_law 840 = .ok (.iload_n 3, 1) := by decide +kernel
theorem dL_law_841 : decode cL_law 841 = .ok (.iconst 2, 1) := by decide +kernel
theorem dL_law_842 : decode cL_law 842 = .ok (.iadd, 1) := by decide +kernel
theorem dL_law_843 : decode cL_law 843 = .ok (.iaload, 1) := by decide +kernel
theorem dL_law_844 : decode cL_law 844 = .ok (.invokevirtual 114, 3) := by decide +kernel
theorem dL_law_847 : decode cL_law 847 = .ok (.if_icmp .eq 44, 3) := by decide +kernel
theorem dL_law_850 : decode cL_law 850 = .ok (.iconst 0, 1) := by decide +kernel
theorem dL_law_851 : decode cL_law 851 = .ok (.ireturn, 1) := by decide +kernel
theorem dL_law_852 : decode cL_law 852 = .ok (.aload_n 1, 1) := by decide +kernel
theorem dL_law_853 : decode cL_law 853 = .ok (.invokevirtual 115, 3) := by decide +kernel
theorem dL_law_856 : decode cL_law 856 = .ok (.aload_n 2, 1) := by decide +kernel
theorem dL_law_857 : decode cL_law 857 = .ok (.invokevirtual 118, 3) := by decide +kernel
theorem dL_law_860 : decode cL_law 860 = .ok (.if_icmp .eq 31, 3) := by decide +kernel
theorem dL_law_863 : decode cL_law 863 = .ok (.iconst 0, 1) := by decide +kernel
theorem dL_law_864 : decode cL_law 864 = .ok (.ireturn, 1) := by decide +kernel
theorem dL_law_865 : decode cL_law 865 = .ok (.aload_n 1, 1) := by decide +kernel
theorem dL_law_866 : decode cL_law 866 = .ok (.invokevirtual 119, 3) := by decide +kernel
theorem dL_law_869 : decode cL_law 869 = .ok (.aload_n 2, 1) := by decide +kernel
theorem dL_law_870 : decode cL_law 870 = .ok (.invokevirtual 122, 3) := by decide +kernel
theorem dL_law_873 : decode cL_law 873 = .ok (.if_icmp .eq 18, 3) := by decide +kernel
theorem dL_law_876 : decode cL_law 876 = .ok (.iconst 0, 1) := by decide +kernel
theorem dL_law_877 : decode cL_law 877 = .ok (.ireturn, 1) := by decide +kernel
theorem dL_law_878 : decode cL_law 878 = .ok (.aload_n 1, 1) := by decide +kernel
theorem dL_law_879 : decode cL_law 879 = .ok (.invokevirtual 123, 3) := by decide +kernel
theorem dL_law_882 : decode cL_law 882 = .ok (.aload_n 2, 1) := by decide +kernel
theorem dL_law_883 : decode cL_law 883 = .ok (.invokevirtual 126, 3) := by decide +kernel
theorem dL_law_886 : decode cL_law 886 = .ok (.if_icmp .eq 5, 3) := by decide +kernel
theorem dL_law_889 : decode cL_law 889 = .ok (.iconst 0, 1) := by decide +kernel
theorem dL_law_890 : decode cL_law 890 = .ok (.ireturn, 1) := by decide +kernel
theorem dL_law_891 : decode cL_law 891 = .ok (.iinc 3 4, 3) := by decide +kernel
theorem dL_law_894 : decode cL_law 894 = .ok (.goto (-876), 3) := by decide +kernel
theorem dL_law_897 : decode cL_law 897 = .ok (.iconst 1, 1) := by decide +kernel
theorem dL_law_898 : decode cL_law 898 = .ok (.ireturn, 1) := by decide +kernel
end
section
abbrev LoomV : Type := (Nat → Int32) × (Nat → Int32) × (Nat → Int32) × (Nat → Int32) × (Nat → Int32) × Int32
abbrev LoomA : Type := Nat × Nat × Nat × Nat × Nat × Nat
def wLoom (G : GG) (a : LoomA) (v : LoomV) : va_W := [(a.1, .inr (3, [.ref a.2.1, .ref a.2.2.1, .ref a.2.2.2.1, .ref a.2.2.2.2.1, .ref a.2.2.2.2.2, .int v.2.2.2.2.2])), (a.2.1, .inl (G.2.1, 10, .inl v.1)), (a.2.2.1, .inl (G.2.1, 10, .inl v.2.1)), (a.2.2.2.1, .inl (G.2.1, 10, .inl v.2.2.1)), (a.2.2.2.2.1, .inl (G.2.1, 10, .inl v.2.2.2.1)), (a.2.2.2.2.2, .inl (G.2.1, 6, .inl v.2.2.2.2.1))]
abbrev GuV : Type := (Nat → Int32) × (Nat → Int32) × (Nat → Int32)
abbrev GuA : Type := Nat × Nat × Nat × Nat
def wGu (G : GG) (a : GuA) (v : GuV) : va_W := [(a.1, .inr (1, [.ref a.2.1, .ref a.2.2.1, .ref a.2.2.2])), (a.2.1, .inl (G.2.1, 3, .inl v.1)), (a.2.2.1, .inl (G.2.1, 3, .inl v.2.1)), (a.2.2.2, .inl (G.2.1, 3, .inl v.2.2))]
abbrev AcV : Type := (Nat → Int32) × (Nat → Int32) × Int32 × Int32 × Int32 × Int32 × Int32
abbrev AcA : Type := Nat × Nat × Nat
def wAc (G : GG) (a : AcA) (v : AcV) : va_W := [(a.1, .inr (0, [.ref a.2.1, .ref a.2.2, .int v.2.2.1, .int v.2.2.2.1, .int v.2.2.2.2.1, .int v.2.2.2.2.2.1, .int v.2.2.2.2.2.2])), (a.2.1, .inl (G.2.1, 10, .inl v.1)), (a.2.2, .inl (G.2.1, 10, .inl v.2.1))]
abbrev StV : Type := LoomV × GuV × AcV × Int32
abbrev StA : Type := Nat × LoomA × GuA × AcA
def wSt (G : GG) (a : StA) (v : StV) : va_W := (a.1, .inr (5, [.ref a.2.1.1, .ref a.2.2.1.1, .ref a.2.2.2.1, .int v.2.2.2])) :: (wLoom G a.2.1 v.1 ++ (wGu G a.2.2.1 v.2.1 ++ (wAc G a.2.2.2 v.2.2.1)))
abbrev PadV : Type := (Nat → Int32) × Int32
abbrev PadA : Type := Nat × Nat
def wPad (G : GG) (a : PadA) (v : PadV) : va_W := [(a.1, .inr (4, [.ref a.2, .int v.2])), (a.2, .inl (G.2.1, 60, .inl v.1))]
abbrev StopV : Type := Int32 × Int32 × Int32
abbrev StopA : Type := Nat
def wStop (G : GG) (a : StopA) (v : StopV) : va_W := [(a, .inr (6, [.int v.1, .int v.2.1, .int v.2.2]))]
abbrev WaysV : Type := (Nat → Int32) × (Nat → Int32) × Int32
abbrev WaysA : Type := Nat × Nat × Nat
def wWays (G : GG) (a : WaysA) (v : WaysV) : va_W := [(a.1, .inr (7, [.ref a.2.1, .ref a.2.2, .int v.2.2])), (a.2.1, .inl (G.2.1, 6144, .inl v.1)), (a.2.2, .inl (G.2.1, 6144, .inl v.2.1))]
abbrev FourV : Type := StV × StV × StV × StV
abbrev FourA : Type := Nat × StA × StA × StA × StA
def wFour (G : GG) (a : FourA) (v : FourV) : va_W := (a.1, .inl (G.2.2, 4, .inr (.inr (.inr (.inr (fun i => if i = 0 then some a.2.1.1 else if i = 1 then some a.2.2.1.1 else if i = 2 then some a.2.2.2.1.1 else some a.2.2.2.2.1)))))) :: (wSt G a.2.1 v.1 ++ (wSt G a.2.2.1 v.2.1 ++ (wSt G a.2.2.2.1 v.2.2.1 ++ (wSt G a.2.2.2.2 v.2.2.2))))
abbrev HistV : Type := FourV × Int32 × Int32
abbrev HistA : Type := Nat × FourA
def wHist (G : GG) (a : HistA) (v : HistV) : va_W := (a.1, .inr (2, [.ref a.2.1, .int v.2.1, .int v.2.2])) :: (wFour G a.2 v.1)
abbrev CDV : Type := StV × HistV × StV × Int32 × PadV × StopV × WaysV
abbrev CDA : Type := Nat × StA × HistA × StA × PadA × StopA × WaysA
def wCD (G : GG) (a : CDA) (v : CDV) : va_W := (a.1, .inr (8, [.ref a.2.1.1, .ref a.2.2.1.1, .ref a.2.2.2.1.1, .int v.2.2.2.1, .ref a.2.2.2.2.1.1, .ref a.2.2.2.2.2.1, .ref a.2.2.2.2.2.2.1])) :: (wPad G a.2.2.2.2.1 v.2.2.2.2.1 ++ (wStop G a.2.2.2.2.2.1 v.2.2.2.2.2.1 ++ (wHist G a.2.2.1 v.2.1 ++ (wSt G a.2.1 v.1 ++ (wSt G a.2.2.2.1 v.2.2.1 ++ (wWays G a.2.2.2.2.2.2 v.2.2.2.2.2.2))))))
abbrev ModV : Type := (Nat → Int32) × (Nat → Int32) × (Nat → Int32) × Int32 × (Nat → Int32) × Int32 × (Nat → Int32) × Int32 × Int32 × Int32 × Int32 × Int32 × (Nat → Int32) × Int32 × (Nat → Int32) × (Nat → Int32) × Int32
abbrev ModA : Type := Nat × Nat × Nat × Nat × Nat × Nat × Nat × Nat × Nat
def wMod (G : GG) (a : ModA) (v : ModV) : va_W := [(a.1, .inr (9, [.ref a.2.1, .ref a.2.2.1, .ref a.2.2.2.1, .int v.2.2.2.1, .ref a.2.2.2.2.1, .int v.2.2.2.2.2.1, .ref a.2.2.2.2.2.1, .int v.2.2.2.2.2.2.2.1, .int v.2.2.2.2.2.2.2.2.1, .int v.2.2.2.2.2.2.2.2.2.1, .int v.2.2.2.2.2.2.2.2.2.2.1, .int v.2.2.2.2.2.2.2.2.2.2.2.1, .ref a.2.2.2.2.2.2.1, .int v.2.2.2.2.2.2.2.2.2.2.2.2.2.1, .ref a.2.2.2.2.2.2.2.1, .ref a.2.2.2.2.2.2.2.2, .int v.2.2.2.2.2.2.2.2.2.2.2.2.2.2.2.2])), (a.2.1, .inl (G.2.1, 85, .inl v.1)), (a.2.2.1, .inl (G.2.1, 85, .inl v.2.1)), (a.2.2.2.1, .inl (G.2.1, 340, .inl v.2.2.1)), (a.2.2.2.2.1, .inl (G.2.1, 85, .inl v.2.2.2.2.1)), (a.2.2.2.2.2.1, .inl (G.2.1, 60, .inl v.2.2.2.2.2.2.1)), (a.2.2.2.2.2.2.1, .inl (G.2.1, 124, .inl v.2.2.2.2.2.2.2.2.2.2.2.2.1)), (a.2.2.2.2.2.2.2.1, .inl (G.2.1, 6144, .inl v.2.2.2.2.2.2.2.2.2.2.2.2.2.2.1)), (a.2.2.2.2.2.2.2.2, .inl (G.2.1, 6144, .inl v.2.2.2.2.2.2.2.2.2.2.2.2.2.2.2.1))]
theorem inX0 : ∀ w ∈ u_ws RX0 TX0 7, w ∈ ub := by decide +kernel
theorem inX1 : ∀ w ∈ u_ws RX1 TX1 3, w ∈ ub := by decide +kernel
theorem inX2 : ∀ w ∈ u_ws RX2 TX2 3, w ∈ ub := by decide +kernel
theorem inX3 : ∀ w ∈ u_ws RX3 TX3 6, w ∈ ub := by decide +kernel
theorem inX4 : ∀ w ∈ u_ws RX4 TX4 2, w ∈ ub := by decide +kernel
theorem inX5 : ∀ w ∈ u_ws RX5 TX5 4, w ∈ ub := by decide +kernel
theorem inX6 : ∀ w ∈ u_ws RX6 TX6 3, w ∈ ub := by decide +kernel
theorem inX7 : ∀ w ∈ u_ws RX7 TX7 3, w ∈ ub := by decide +kernel
theorem inX8 : ∀ w ∈ u_ws RX8 TX8 7, w ∈ ub := by decide +kernel
theorem inX9 : ∀ w ∈ u_ws RX9 TX9 17, w ∈ ub := by decide +kernel
theorem u_0 : (Cond.selects RX5 yX5_opensUnless yX5_opensUnless) ∈ ub := ub_mem 0 (by decide +kernel) rfl
theorem u_1 : (Cond.selects RX3 yX3_hasTooMany yX3_hasTooMany) ∈ ub := ub_mem 1 (by decide +kernel) rfl
theorem u_2 : (Cond.selects RX5 yX5_reasonNotToShut yX5_reasonNotToShut) ∈ ub := ub_mem 2 (by decide +kernel) rfl
theorem u_3 : (Cond.selects RX5 yX5_shutsUnless yX5_shutsUnless) ∈ ub := ub_mem 3 (by decide +kernel) rfl
theorem u_4 : (Cond.selects RX5 yX5_reasonNotToOpenAsGuest yX5_reasonNotToOpenAsGuest) ∈ ub := ub_mem 4 (by decide +kernel) rfl
theorem u_5 : (Cond.selects RX5 yX5_isAtDoor yX5_isAtDoor) ∈ ub := ub_mem 5 (by decide +kernel) rfl
theorem u_6 : (Cond.selects RX5 yX5_reasonNotToUse yX5_reasonNotToUse) ∈ ub := ub_mem 6 (by decide +kernel) rfl
theorem u_7 : (Cond.selects RX4 yX4_codeAt yX4_codeAt) ∈ ub := ub_mem 7 (by decide +kernel) rfl
theorem u_8 : (Cond.selects RX8 yX8_runDeedAt yX8_runDeedAt) ∈ ub := ub_mem 8 (by decide +kernel) rfl
theorem u_9 : (Cond.selects RX4 yX4_placeOfLetter yX4_placeOfLetter) ∈ ub := ub_mem 9 (by decide +kernel) rfl
theorem u_10 : (Cond.selects RX8 yX8_mostOfAllSets yX8_mostOfAllSets) ∈ ub := ub_mem 10 (by decide +kernel) rfl
theorem u_11 : (Cond.selects RX7 yX7_reach yX7_reach) ∈ ub := ub_mem 11 (by decide +kernel) rfl
theorem u_12 : (Cond.selects RX7 yX7_goOnFrom yX7_goOnFrom) ∈ ub := ub_mem 12 (by decide +kernel) rfl
theorem u_13 : (Cond.selects RX7 yX7_lineUpSets yX7_lineUpSets) ∈ ub := ub_mem 13 (by decide +kernel) rfl
theorem u_14 : (Cond.selects RX7 yX7_lessenAll yX7_lessenAll) ∈ ub := ub_mem 14 (by decide +kernel) rfl
theorem u_15 : (Cond.selects RX7 yX7_lessen yX7_lessen) ∈ ub := ub_mem 15 (by decide +kernel) rfl
theorem u_16 : (Cond.selects RX9 yX9_lay yX9_lay) ∈ ub := ub_mem 16 (by decide +kernel) rfl
theorem u_17 : (Cond.selects RX9 yX9_openSet yX9_openSet) ∈ ub := ub_mem 17 (by decide +kernel) rfl
theorem u_18 : (Cond.selects RX9 yX9_of yX9_of) ∈ ub := ub_mem 18 (by decide +kernel) rfl
theorem u_19 : (Cond.selects RX9 yX9_record yX9_record) ∈ ub := ub_mem 19 (by decide +kernel) rfl
theorem u_20 : (Cond.selects RX9 yX9_openNow yX9_openNow) ∈ ub := ub_mem 20 (by decide +kernel) rfl
theorem u_21 : (Cond.selects RX9 yX9_reason yX9_reason) ∈ ub := ub_mem 21 (by decide +kernel) rfl
theorem u_22 : (Cond.selects RX9 yX9_isOpen yX9_isOpen) ∈ ub := ub_mem 22 (by decide +kernel) rfl
theorem u_23 : (Cond.selects RX9 yX9_cordsTo yX9_cordsTo) ∈ ub := ub_mem 23 (by decide +kernel) rfl
theorem u_24 : (Cond.selects RX9 yX9_goesTo yX9_goesTo) ∈ ub := ub_mem 24 (by decide +kernel) rfl
theorem u_25 : (Cond.selects RX9 yX9_refuse yX9_refuse) ∈ ub := ub_mem 25 (by decide +kernel) rfl
theorem u_26 : (Cond.selects RX9 yX9_opens yX9_opens) ∈ ub := ub_mem 26 (by decide +kernel) rfl
theorem u_27 : (Cond.selects RX9 yX9_shuts yX9_shuts) ∈ ub := ub_mem 27 (by decide +kernel) rfl
theorem u_28 : (Cond.selects RX9 yX9_openIn yX9_openIn) ∈ ub := ub_mem 28 (by decide +kernel) rfl
theorem u_29 : (Cond.selects RX9 yX9_joins yX9_joins) ∈ ub := ub_mem 29 (by decide +kernel) rfl
theorem u_30 : (Cond.selects RX9 yX9_lowestIn yX9_lowestIn) ∈ ub := ub_mem 30 (by decide +kernel) rfl
theorem u_31 : (Cond.selects RX9 yX9_shutNow yX9_shutNow) ∈ ub := ub_mem 31 (by decide +kernel) rfl
theorem u_32 : (Cond.selects RX9 yX9_guestOpensNow yX9_guestOpensNow) ∈ ub := ub_mem 32 (by decide +kernel) rfl
theorem u_33 : (Cond.selects RX9 yX9_isAt yX9_isAt) ∈ ub := ub_mem 33 (by decide +kernel) rfl
theorem u_34 : (Cond.selects RX9 yX9_ofGuest yX9_ofGuest) ∈ ub := ub_mem 34 (by decide +kernel) rfl
theorem u_35 : (Cond.selects RX9 yX9_hasKey yX9_hasKey) ∈ ub := ub_mem 35 (by decide +kernel) rfl
theorem u_36 : (Cond.selects RX9 yX9_guestShutsNow yX9_guestShutsNow) ∈ ub := ub_mem 36 (by decide +kernel) rfl
theorem u_37 : (Cond.selects RX9 yX9_walkNow yX9_walkNow) ∈ ub := ub_mem 37 (by decide +kernel) rfl
theorem u_38 : (Cond.selects RX9 yX9_across yX9_across) ∈ ub := ub_mem 38 (by decide +kernel) rfl
theorem u_39 : (Cond.selects RX9 yX9_lesserHall yX9_lesserHall) ∈ ub := ub_mem 39 (by decide +kernel) rfl
theorem u_40 : (Cond.selects RX9 yX9_greaterHall yX9_greaterHall) ∈ ub := ub_mem 40 (by decide +kernel) rfl
theorem u_41 : (Cond.selects RX9 yX9_readPad yX9_readPad) ∈ ub := ub_mem 41 (by decide +kernel) rfl
theorem u_42 : (Cond.selects RX9 yX9_readDeed yX9_readDeed) ∈ ub := ub_mem 42 (by decide +kernel) rfl
theorem u_43 : (Cond.selects RX9 yX9_takes yX9_takes) ∈ ub := ub_mem 43 (by decide +kernel) rfl
theorem u_44 : (Cond.selects RX9 yX9_sees yX9_sees) ∈ ub := ub_mem 44 (by decide +kernel) rfl
theorem u_45 : (Cond.selects RX9 yX9_takesOne yX9_takesOne) ∈ ub := ub_mem 45 (by decide +kernel) rfl
theorem u_46 : (Cond.selects RX9 yX9_doDeed yX9_doDeed) ∈ ub := ub_mem 46 (by decide +kernel) rfl
theorem u_47 : (Cond.selects RX9 yX9_doorsOf yX9_doorsOf) ∈ ub := ub_mem 47 (by decide +kernel) rfl
theorem u_48 : (Cond.selects RX9 yX9_guestsIn yX9_guestsIn) ∈ ub := ub_mem 48 (by decide +kernel) rfl
theorem u_49 : (Cond.selects RX9 yX9_hangs yX9_hangs) ∈ ub := ub_mem 49 (by decide +kernel) rfl
theorem u_50 : (Cond.selects RX9 yX9_canOpen yX9_canOpen) ∈ ub := ub_mem 50 (by decide +kernel) rfl
theorem u_51 : (Cond.selects RX9 yX9_canBe yX9_canBe) ∈ ub := ub_mem 51 (by decide +kernel) rfl
theorem u_52 : (Cond.selects RX9 yX9_reach yX9_reach) ∈ ub := ub_mem 52 (by decide +kernel) rfl
theorem u_53 : (Cond.selects RX9 yX9_goOn yX9_goOn) ∈ ub := ub_mem 53 (by decide +kernel) rfl
theorem u_54 : (Cond.selects RX9 yX9_laySet yX9_laySet) ∈ ub := ub_mem 54 (by decide +kernel) rfl
theorem u_55 : (Cond.selects RX9 yX9_cords yX9_cords) ∈ ub := ub_mem 55 (by decide +kernel) rfl
theorem u_56 : (Cond.selects RX9 yX9_held yX9_held) ∈ ub := ub_mem 56 (by decide +kernel) rfl
theorem u_57 : (Cond.selects RX9 yX9_pairsOfHalls yX9_pairsOfHalls) ∈ ub := ub_mem 57 (by decide +kernel) rfl
theorem u_58 : (Cond.selects RX9 yX9_pairsOfDoors yX9_pairsOfDoors) ∈ ub := ub_mem 58 (by decide +kernel) rfl
theorem u_63 : (Cond.initialized "java/lang/Math") ∈ ub := ub_mem 63 (by decide +kernel) rfl
theorem u_71 : (Cond.initialized "java/lang/System") ∈ ub := ub_mem 71 (by decide +kernel) rfl
theorem u_95 : (Cond.instanceMethod yX3_hang) ∈ ub := ub_mem 95 (by decide +kernel) rfl
theorem u_96 : (Cond.selects RX3 yX3_hang yX3_hang) ∈ ub := ub_mem 96 (by decide +kernel) rfl
theorem u_98 : (Cond.methodLink RX3 41 Lib.Math.min.name) ∈ ub := ub_mem 98 (by decide +kernel) rfl
theorem u_99 : (Cond.static Lib.Math.min.name) ∈ ub := ub_mem 99 (by decide +kernel) rfl
theorem u_100 : (Cond.code Lib.Math.min.name Lib.Math.min.code 2 (some .int)) ∈ ub := ub_mem 100 (by decide +kernel) rfl
theorem u_101 : (Cond.methodLink RX3 47 Lib.Math.max.name) ∈ ub := ub_mem 101 (by decide +kernel) rfl
theorem u_102 : (Cond.static Lib.Math.max.name) ∈ ub := ub_mem 102 (by decide +kernel) rfl
theorem u_103 : (Cond.code Lib.Math.max.name Lib.Math.max.code 2 (some .int)) ∈ ub := ub_mem 103 (by decide +kernel) rfl
theorem u_294 : (Cond.methodLink RX8 51 yX8_isDoor) ∈ ub := ub_mem 294 (by decide +kernel) rfl
theorem u_295 : (Cond.static yX8_isDoor) ∈ ub := ub_mem 295 (by decide +kernel) rfl
theorem u_297 : (Cond.methodLink RX8 55 yX2_record) ∈ ub := ub_mem 297 (by decide +kernel) rfl
theorem u_298 : (Cond.instanceMethod yX2_record) ∈ ub := ub_mem 298 (by decide +kernel) rfl
theorem u_299 : (Cond.selects RX2 yX2_record yX2_record) ∈ ub := ub_mem 299 (by decide +kernel) rfl
theorem u_302 : (Cond.instanceMethod yX5_copy) ∈ ub := ub_mem 302 (by decide +kernel) rfl
theorem u_303 : (Cond.selects RX5 yX5_copy yX5_copy) ∈ ub := ub_mem 303 (by decide +kernel) rfl
theorem u_305 : (Cond.methodLink RX5 36 yX3_copy) ∈ ub := ub_mem 305 (by decide +kernel) rfl
theorem u_306 : (Cond.instanceMethod yX3_copy) ∈ ub := ub_mem 306 (by decide +kernel) rfl
theorem u_307 : (Cond.selects RX3 yX3_copy yX3_copy) ∈ ub := ub_mem 307 (by decide +kernel) rfl
theorem u_309 : (Cond.methodLink RX3 35 arraycopyName) ∈ ub := ub_mem 309 (by decide +kernel) rfl
theorem u_310 : (Cond.static arraycopyName) ∈ ub := ub_mem 310 (by decide +kernel) rfl
theorem u_311 : (Cond.native arraycopyName) ∈ ub := ub_mem 311 (by decide +kernel) rfl
theorem u_312 : (Cond.methodLink RX5 40 yX1_copy) ∈ ub := ub_mem 312 (by decide +kernel) rfl
theorem u_313 : (Cond.instanceMethod yX1_copy) ∈ ub := ub_mem 313 (by decide +kernel) rfl
theorem u_314 : (Cond.selects RX1 yX1_copy yX1_copy) ∈ ub := ub_mem 314 (by decide +kernel) rfl
theorem u_316 : (Cond.methodLink RX1 21 arraycopyName) ∈ ub := ub_mem 316 (by decide +kernel) rfl
theorem u_317 : (Cond.methodLink RX5 43 yX0_copy) ∈ ub := ub_mem 317 (by decide +kernel) rfl
theorem u_318 : (Cond.instanceMethod yX0_copy) ∈ ub := ub_mem 318 (by decide +kernel) rfl
theorem u_319 : (Cond.selects RX0 yX0_copy yX0_copy) ∈ ub := ub_mem 319 (by decide +kernel) rfl
theorem u_321 : (Cond.methodLink RX0 34 arraycopyName) ∈ ub := ub_mem 321 (by decide +kernel) rfl
theorem u_322 : (Cond.methodLink RX8 59 yX5_servantOpens) ∈ ub := ub_mem 322 (by decide +kernel) rfl
theorem u_323 : (Cond.instanceMethod yX5_servantOpens) ∈ ub := ub_mem 323 (by decide +kernel) rfl
theorem u_324 : (Cond.selects RX5 yX5_servantOpens yX5_servantOpens) ∈ ub := ub_mem 324 (by decide +kernel) rfl
theorem u_326 : (Cond.methodLink RX5 71 yX5_reasonNotToOpen) ∈ ub := ub_mem 326 (by decide +kernel) rfl
theorem u_327 : (Cond.instanceMethod yX5_reasonNotToOpen) ∈ ub := ub_mem 327 (by decide +kernel) rfl
theorem u_328 : (Cond.selects RX5 yX5_reasonNotToOpen yX5_reasonNotToOpen) ∈ ub := ub_mem 328 (by decide +kernel) rfl
theorem u_330 : (Cond.methodLink RX5 50 yX5_isOpen) ∈ ub := ub_mem 330 (by decide +kernel) rfl
theorem u_331 : (Cond.instanceMethod yX5_isOpen) ∈ ub := ub_mem 331 (by decide +kernel) rfl
theorem u_332 : (Cond.selects RX5 yX5_isOpen yX5_isOpen) ∈ ub := ub_mem 332 (by decide +kernel) rfl
theorem u_334 : (Cond.methodLinkNest RX5 46 yX8_has "CordDoors") ∈ nwL := nw_mem 334 (by decide +kernel) rfl
theorem u_335 : (Cond.static yX8_has) ∈ ub := ub_mem 335 (by decide +kernel) rfl
theorem u_337 : (Cond.methodLink RX5 54 yX3_heldBy) ∈ ub := ub_mem 337 (by decide +kernel) rfl
theorem u_338 : (Cond.instanceMethod yX3_heldBy) ∈ ub := ub_mem 338 (by decide +kernel) rfl
theorem u_339 : (Cond.selects RX3 yX3_heldBy yX3_heldBy) ∈ ub := ub_mem 339 (by decide +kernel) rfl
theorem u_341 : (Cond.methodLinkNest RX3 50 yX8_has "CordDoors") ∈ nwL := nw_mem 341 (by decide +kernel) rfl
theorem u_342 : (Cond.methodLink RX3 54 yX3_targetsOf) ∈ ub := ub_mem 342 (by decide +kernel) rfl
theorem u_343 : (Cond.instanceMethod yX3_targetsOf) ∈ ub := ub_mem 343 (by decide +kernel) rfl
theorem u_344 : (Cond.selects RX3 yX3_targetsOf yX3_targetsOf) ∈ ub := ub_mem 344 (by decide +kernel) rfl
theorem u_346 : (Cond.methodLink RX5 81 yX5_opensUnless) ∈ ub := ub_mem 346 (by decide +kernel) rfl
theorem u_348 : (Cond.instanceMethod yX5_opensUnless) ∈ ub := ub_mem 348 (by decide +kernel) rfl
theorem u_350 : (Cond.methodLink RX5 90 yX0_noteRefused) ∈ ub := ub_mem 350 (by decide +kernel) rfl
theorem u_351 : (Cond.instanceMethod yX0_noteRefused) ∈ ub := ub_mem 351 (by decide +kernel) rfl
theorem u_352 : (Cond.selects RX0 yX0_noteRefused yX0_noteRefused) ∈ ub := ub_mem 352 (by decide +kernel) rfl
theorem u_354 : (Cond.methodLink RX5 103 yX3_afterCords) ∈ ub := ub_mem 354 (by decide +kernel) rfl
theorem u_355 : (Cond.instanceMethod yX3_afterCords) ∈ ub := ub_mem 355 (by decide +kernel) rfl
theorem u_356 : (Cond.selects RX3 yX3_afterCords yX3_afterCords) ∈ ub := ub_mem 356 (by decide +kernel) rfl
theorem u_358 : (Cond.methodLink RX5 106 yX3_afterDrafts) ∈ ub := ub_mem 358 (by decide +kernel) rfl
theorem u_359 : (Cond.instanceMethod yX3_afterDrafts) ∈ ub := ub_mem 359 (by decide +kernel) rfl
theorem u_360 : (Cond.selects RX3 yX3_afterDrafts yX3_afterDrafts) ∈ ub := ub_mem 360 (by decide +kernel) rfl
theorem u_362 : (Cond.methodLink RX3 66 yX3_hasTooMany) ∈ ub := ub_mem 362 (by decide +kernel) rfl
theorem u_364 : (Cond.instanceMethod yX3_hasTooMany) ∈ ub := ub_mem 364 (by decide +kernel) rfl
theorem u_366 : (Cond.methodLink RX3 58 yJ6_bitCount_0f7a4) ∈ ub := ub_mem 366 (by decide +kernel) rfl
theorem u_367 : (Cond.static yJ6_bitCount_0f7a4) ∈ ub := ub_mem 367 (by decide +kernel) rfl
theorem u_369 : (Cond.constant RJ6 265 (1431655765)) ∈ ub := ub_mem 369 (by decide +kernel) rfl
theorem u_370 : (Cond.constant RJ6 266 (858993459)) ∈ ub := ub_mem 370 (by decide +kernel) rfl
theorem u_371 : (Cond.constant RJ6 267 (252645135)) ∈ ub := ub_mem 371 (by decide +kernel) rfl
theorem u_372 : (Cond.methodLinkNest RX3 75 yX8_without "CordDoors") ∈ nwL := nw_mem 372 (by decide +kernel) rfl
theorem u_373 : (Cond.static yX8_without) ∈ ub := ub_mem 373 (by decide +kernel) rfl
theorem u_375 : (Cond.methodLink RX5 109 yX0_noteOpened) ∈ ub := ub_mem 375 (by decide +kernel) rfl
theorem u_376 : (Cond.instanceMethod yX0_noteOpened) ∈ ub := ub_mem 376 (by decide +kernel) rfl
theorem u_377 : (Cond.selects RX0 yX0_noteOpened yX0_noteOpened) ∈ ub := ub_mem 377 (by decide +kernel) rfl
theorem u_379 : (Cond.methodLink RX5 113 yX0_noteShutByOpening) ∈ ub := ub_mem 379 (by decide +kernel) rfl
theorem u_380 : (Cond.instanceMethod yX0_noteShutByOpening) ∈ ub := ub_mem 380 (by decide +kernel) rfl
theorem u_381 : (Cond.selects RX0 yX0_noteShutByOpening yX0_noteShutByOpening) ∈ ub := ub_mem 381 (by decide +kernel) rfl
theorem u_383 : (Cond.methodLink RX0 40 yJ6_bitCount_0f7a4) ∈ ub := ub_mem 383 (by decide +kernel) rfl
theorem u_384 : (Cond.methodLinkNest RX0 46 yX8_has "CordDoors") ∈ nwL := nw_mem 384 (by decide +kernel) rfl
theorem u_385 : (Cond.methodLink RX5 117 yJ6_bitCount_0f7a4) ∈ ub := ub_mem 385 (by decide +kernel) rfl
theorem u_390 : (Cond.methodLink RX8 63 yX5_servantShuts) ∈ ub := ub_mem 390 (by decide +kernel) rfl
theorem u_391 : (Cond.instanceMethod yX5_servantShuts) ∈ ub := ub_mem 391 (by decide +kernel) rfl
theorem u_392 : (Cond.selects RX5 yX5_servantShuts yX5_servantShuts) ∈ ub := ub_mem 392 (by decide +kernel) rfl
theorem u_394 : (Cond.methodLink RX5 74 yX5_reasonNotToShut) ∈ ub := ub_mem 394 (by decide +kernel) rfl
theorem u_396 : (Cond.instanceMethod yX5_reasonNotToShut) ∈ ub := ub_mem 396 (by decide +kernel) rfl
theorem u_398 : (Cond.methodLink RX5 84 yX5_shutsUnless) ∈ ub := ub_mem 398 (by decide +kernel) rfl
theorem u_400 : (Cond.instanceMethod yX5_shutsUnless) ∈ ub := ub_mem 400 (by decide +kernel) rfl
theorem u_402 : (Cond.methodLink RX5 122 yX0_noteShutByHand) ∈ ub := ub_mem 402 (by decide +kernel) rfl
theorem u_403 : (Cond.instanceMethod yX0_noteShutByHand) ∈ ub := ub_mem 403 (by decide +kernel) rfl
theorem u_404 : (Cond.selects RX0 yX0_noteShutByHand yX0_noteShutByHand) ∈ ub := ub_mem 404 (by decide +kernel) rfl
theorem u_406 : (Cond.methodLinkNest RX5 125 yX8_without "CordDoors") ∈ nwL := nw_mem 406 (by decide +kernel) rfl
theorem u_411 : (Cond.methodLink RX8 70 yX3_cordOf) ∈ ub := ub_mem 411 (by decide +kernel) rfl
theorem u_412 : (Cond.instanceMethod yX3_cordOf) ∈ ub := ub_mem 412 (by decide +kernel) rfl
theorem u_413 : (Cond.selects RX3 yX3_cordOf yX3_cordOf) ∈ ub := ub_mem 413 (by decide +kernel) rfl
theorem u_415 : (Cond.methodLink RX8 76 yX5_laysCord) ∈ ub := ub_mem 415 (by decide +kernel) rfl
theorem u_416 : (Cond.instanceMethod yX5_laysCord) ∈ ub := ub_mem 416 (by decide +kernel) rfl
theorem u_417 : (Cond.selects RX5 yX5_laysCord yX5_laysCord) ∈ ub := ub_mem 417 (by decide +kernel) rfl
theorem u_419 : (Cond.methodLink RX5 99 yX3_layCord) ∈ ub := ub_mem 419 (by decide +kernel) rfl
theorem u_420 : (Cond.instanceMethod yX3_layCord) ∈ ub := ub_mem 420 (by decide +kernel) rfl
theorem u_421 : (Cond.selects RX3 yX3_layCord yX3_layCord) ∈ ub := ub_mem 421 (by decide +kernel) rfl
theorem u_427 : (Cond.methodLink RX8 80 yX8_isHall) ∈ ub := ub_mem 427 (by decide +kernel) rfl
theorem u_428 : (Cond.static yX8_isHall) ∈ ub := ub_mem 428 (by decide +kernel) rfl
theorem u_430 : (Cond.methodLink RX8 83 yX5_isOpen) ∈ ub := ub_mem 430 (by decide +kernel) rfl
theorem u_431 : (Cond.methodLink RX8 86 yX3_lesserHall) ∈ ub := ub_mem 431 (by decide +kernel) rfl
theorem u_432 : (Cond.instanceMethod yX3_lesserHall) ∈ ub := ub_mem 432 (by decide +kernel) rfl
theorem u_433 : (Cond.selects RX3 yX3_lesserHall yX3_lesserHall) ∈ ub := ub_mem 433 (by decide +kernel) rfl
theorem u_435 : (Cond.methodLink RX8 89 yX3_greaterHall) ∈ ub := ub_mem 435 (by decide +kernel) rfl
theorem u_436 : (Cond.instanceMethod yX3_greaterHall) ∈ ub := ub_mem 436 (by decide +kernel) rfl
theorem u_437 : (Cond.selects RX3 yX3_greaterHall yX3_greaterHall) ∈ ub := ub_mem 437 (by decide +kernel) rfl
theorem u_439 : (Cond.methodLink RX8 92 yX3_hang) ∈ ub := ub_mem 439 (by decide +kernel) rfl
theorem u_444 : (Cond.methodLink RX8 96 yX8_isGuest) ∈ ub := ub_mem 444 (by decide +kernel) rfl
theorem u_445 : (Cond.static yX8_isGuest) ∈ ub := ub_mem 445 (by decide +kernel) rfl
theorem u_447 : (Cond.methodLink RX8 99 yX8_isSetOfDoors) ∈ ub := ub_mem 447 (by decide +kernel) rfl
theorem u_448 : (Cond.static yX8_isSetOfDoors) ∈ ub := ub_mem 448 (by decide +kernel) rfl
theorem u_458 : (Cond.methodLink RX8 116 yX5_opensAsGuest) ∈ ub := ub_mem 458 (by decide +kernel) rfl
theorem u_459 : (Cond.instanceMethod yX5_opensAsGuest) ∈ ub := ub_mem 459 (by decide +kernel) rfl
theorem u_460 : (Cond.selects RX5 yX5_opensAsGuest yX5_opensAsGuest) ∈ ub := ub_mem 460 (by decide +kernel) rfl
theorem u_462 : (Cond.methodLink RX5 77 yX5_reasonNotToOpenAsGuest) ∈ ub := ub_mem 462 (by decide +kernel) rfl
theorem u_464 : (Cond.instanceMethod yX5_reasonNotToOpenAsGuest) ∈ ub := ub_mem 464 (by decide +kernel) rfl
theorem u_466 : (Cond.methodLink RX5 65 yX5_isAtDoor) ∈ ub := ub_mem 466 (by decide +kernel) rfl
theorem u_468 : (Cond.instanceMethod yX5_isAtDoor) ∈ ub := ub_mem 468 (by decide +kernel) rfl
theorem u_470 : (Cond.methodLink RX5 62 yX3_doorsOf) ∈ ub := ub_mem 470 (by decide +kernel) rfl
theorem u_471 : (Cond.instanceMethod yX3_doorsOf) ∈ ub := ub_mem 471 (by decide +kernel) rfl
theorem u_472 : (Cond.selects RX3 yX3_doorsOf yX3_doorsOf) ∈ ub := ub_mem 472 (by decide +kernel) rfl
theorem u_478 : (Cond.methodLink RX8 120 yX5_shutsAsGuest) ∈ ub := ub_mem 478 (by decide +kernel) rfl
theorem u_479 : (Cond.instanceMethod yX5_shutsAsGuest) ∈ ub := ub_mem 479 (by decide +kernel) rfl
theorem u_480 : (Cond.selects RX5 yX5_shutsAsGuest yX5_shutsAsGuest) ∈ ub := ub_mem 480 (by decide +kernel) rfl
theorem u_482 : (Cond.methodLink RX5 87 yX5_reasonNotToUse) ∈ ub := ub_mem 482 (by decide +kernel) rfl
theorem u_484 : (Cond.instanceMethod yX5_reasonNotToUse) ∈ ub := ub_mem 484 (by decide +kernel) rfl
theorem u_490 : (Cond.methodLink RX8 123 yX5_walksThrough) ∈ ub := ub_mem 490 (by decide +kernel) rfl
theorem u_491 : (Cond.instanceMethod yX5_walksThrough) ∈ ub := ub_mem 491 (by decide +kernel) rfl
theorem u_492 : (Cond.selects RX5 yX5_walksThrough yX5_walksThrough) ∈ ub := ub_mem 492 (by decide +kernel) rfl
theorem u_494 : (Cond.methodLink RX5 93 yX3_otherHall) ∈ ub := ub_mem 494 (by decide +kernel) rfl
theorem u_495 : (Cond.instanceMethod yX3_otherHall) ∈ ub := ub_mem 495 (by decide +kernel) rfl
theorem u_496 : (Cond.selects RX3 yX3_otherHall yX3_otherHall) ∈ ub := ub_mem 496 (by decide +kernel) rfl
theorem u_502 : (Cond.methodLink RX8 129 yX4_add) ∈ ub := ub_mem 502 (by decide +kernel) rfl
theorem u_503 : (Cond.instanceMethod yX4_add) ∈ ub := ub_mem 503 (by decide +kernel) rfl
theorem u_504 : (Cond.selects RX4 yX4_add yX4_add) ∈ ub := ub_mem 504 (by decide +kernel) rfl
theorem u_510 : (Cond.methodLink RX8 132 yX4_empty) ∈ ub := ub_mem 510 (by decide +kernel) rfl
theorem u_511 : (Cond.instanceMethod yX4_empty) ∈ ub := ub_mem 511 (by decide +kernel) rfl
theorem u_512 : (Cond.selects RX4 yX4_empty yX4_empty) ∈ ub := ub_mem 512 (by decide +kernel) rfl
theorem u_518 : (Cond.methodLink RX8 136 yX4_faultPlace) ∈ ub := ub_mem 518 (by decide +kernel) rfl
theorem u_519 : (Cond.instanceMethod yX4_faultPlace) ∈ ub := ub_mem 519 (by decide +kernel) rfl
theorem u_520 : (Cond.selects RX4 yX4_faultPlace yX4_faultPlace) ∈ ub := ub_mem 520 (by decide +kernel) rfl
theorem u_522 : (Cond.methodLink RX4 19 yX4_codeAt) ∈ ub := ub_mem 522 (by decide +kernel) rfl
theorem u_524 : (Cond.instanceMethod yX4_codeAt) ∈ ub := ub_mem 524 (by decide +kernel) rfl
theorem u_526 : (Cond.methodLink RX4 23 yX4_expectedAfter) ∈ ub := ub_mem 526 (by decide +kernel) rfl
theorem u_527 : (Cond.static yX4_expectedAfter) ∈ ub := ub_mem 527 (by decide +kernel) rfl
theorem u_529 : (Cond.methodLinkNest RX4 27 yX8_isGuest "CordDoors") ∈ nwL := nw_mem 529 (by decide +kernel) rfl
theorem u_530 : (Cond.methodLinkNest RX4 31 yX8_isDoor "CordDoors") ∈ nwL := nw_mem 530 (by decide +kernel) rfl
theorem u_535 : (Cond.methodLink RX8 139 yX6_forget) ∈ ub := ub_mem 535 (by decide +kernel) rfl
theorem u_536 : (Cond.instanceMethod yX6_forget) ∈ ub := ub_mem 536 (by decide +kernel) rfl
theorem u_537 : (Cond.selects RX6 yX6_forget yX6_forget) ∈ ub := ub_mem 537 (by decide +kernel) rfl
theorem u_539 : (Cond.methodLink RX8 142 yX6_happened) ∈ ub := ub_mem 539 (by decide +kernel) rfl
theorem u_540 : (Cond.instanceMethod yX6_happened) ∈ ub := ub_mem 540 (by decide +kernel) rfl
theorem u_541 : (Cond.selects RX6 yX6_happened yX6_happened) ∈ ub := ub_mem 541 (by decide +kernel) rfl
theorem u_543 : (Cond.methodLink RX8 146 yX8_runDeedAt) ∈ ub := ub_mem 543 (by decide +kernel) rfl
theorem u_545 : (Cond.instanceMethod yX8_runDeedAt) ∈ ub := ub_mem 545 (by decide +kernel) rfl
theorem u_547 : (Cond.methodLink RX8 280 yX4_doorOfDeed) ∈ ub := ub_mem 547 (by decide +kernel) rfl
theorem u_548 : (Cond.instanceMethod yX4_doorOfDeed) ∈ ub := ub_mem 548 (by decide +kernel) rfl
theorem u_549 : (Cond.selects RX4 yX4_doorOfDeed yX4_doorOfDeed) ∈ ub := ub_mem 549 (by decide +kernel) rfl
theorem u_551 : (Cond.methodLink RX4 34 yX4_placeOfLetter) ∈ ub := ub_mem 551 (by decide +kernel) rfl
theorem u_553 : (Cond.instanceMethod yX4_placeOfLetter) ∈ ub := ub_mem 553 (by decide +kernel) rfl
theorem u_555 : (Cond.methodLink RX4 37 yX4_isGuestsDeed) ∈ ub := ub_mem 555 (by decide +kernel) rfl
theorem u_556 : (Cond.instanceMethod yX4_isGuestsDeed) ∈ ub := ub_mem 556 (by decide +kernel) rfl
theorem u_557 : (Cond.selects RX4 yX4_isGuestsDeed yX4_isGuestsDeed) ∈ ub := ub_mem 557 (by decide +kernel) rfl
theorem u_559 : (Cond.methodLink RX8 283 yX4_letterOfDeed) ∈ ub := ub_mem 559 (by decide +kernel) rfl
theorem u_560 : (Cond.instanceMethod yX4_letterOfDeed) ∈ ub := ub_mem 560 (by decide +kernel) rfl
theorem u_561 : (Cond.selects RX4 yX4_letterOfDeed yX4_letterOfDeed) ∈ ub := ub_mem 561 (by decide +kernel) rfl
theorem u_563 : (Cond.methodLink RX8 286 yX4_isGuestsDeed) ∈ ub := ub_mem 563 (by decide +kernel) rfl
theorem u_564 : (Cond.methodLink RX8 289 yX4_guestOfDeed) ∈ ub := ub_mem 564 (by decide +kernel) rfl
theorem u_565 : (Cond.instanceMethod yX4_guestOfDeed) ∈ ub := ub_mem 565 (by decide +kernel) rfl
theorem u_566 : (Cond.selects RX4 yX4_guestOfDeed yX4_guestOfDeed) ∈ ub := ub_mem 566 (by decide +kernel) rfl
theorem u_568 : (Cond.methodLink RX8 149 yX6_remember) ∈ ub := ub_mem 568 (by decide +kernel) rfl
theorem u_569 : (Cond.instanceMethod yX6_remember) ∈ ub := ub_mem 569 (by decide +kernel) rfl
theorem u_570 : (Cond.selects RX6 yX6_remember yX6_remember) ∈ ub := ub_mem 570 (by decide +kernel) rfl
theorem u_572 : (Cond.methodLink RX8 152 yX4_placeOfNextDeed) ∈ ub := ub_mem 572 (by decide +kernel) rfl
theorem u_573 : (Cond.instanceMethod yX4_placeOfNextDeed) ∈ ub := ub_mem 573 (by decide +kernel) rfl
theorem u_574 : (Cond.selects RX4 yX4_placeOfNextDeed yX4_placeOfNextDeed) ∈ ub := ub_mem 574 (by decide +kernel) rfl
theorem u_584 : (Cond.methodLink RX8 164 yX8_doorOrNotFound) ∈ ub := ub_mem 584 (by decide +kernel) rfl
theorem u_585 : (Cond.static yX8_doorOrNotFound) ∈ ub := ub_mem 585 (by decide +kernel) rfl
theorem u_587 : (Cond.methodLink RX8 170 yX3_heldBy) ∈ ub := ub_mem 587 (by decide +kernel) rfl
theorem u_588 : (Cond.methodLink RX8 173 yX8_has) ∈ ub := ub_mem 588 (by decide +kernel) rfl
theorem u_589 : (Cond.methodLink RX8 177 yX3_cordsTo) ∈ ub := ub_mem 589 (by decide +kernel) rfl
theorem u_590 : (Cond.instanceMethod yX3_cordsTo) ∈ ub := ub_mem 590 (by decide +kernel) rfl
theorem u_591 : (Cond.selects RX3 yX3_cordsTo yX3_cordsTo) ∈ ub := ub_mem 591 (by decide +kernel) rfl
theorem u_597 : (Cond.methodLink RX8 192 yX3_doorsOf) ∈ ub := ub_mem 597 (by decide +kernel) rfl
theorem u_598 : (Cond.methodLink RX8 195 yJ6_bitCount_0f7a4) ∈ ub := ub_mem 598 (by decide +kernel) rfl
theorem u_599 : (Cond.methodLink RX8 200 yX1_howManyIn) ∈ ub := ub_mem 599 (by decide +kernel) rfl
theorem u_600 : (Cond.instanceMethod yX1_howManyIn) ∈ ub := ub_mem 600 (by decide +kernel) rfl
theorem u_601 : (Cond.selects RX1 yX1_howManyIn yX1_howManyIn) ∈ ub := ub_mem 601 (by decide +kernel) rfl
theorem u_603 : (Cond.methodLink RX8 203 yX3_hallsFrom) ∈ ub := ub_mem 603 (by decide +kernel) rfl
theorem u_604 : (Cond.instanceMethod yX3_hallsFrom) ∈ ub := ub_mem 604 (by decide +kernel) rfl
theorem u_605 : (Cond.selects RX3 yX3_hallsFrom yX3_hallsFrom) ∈ ub := ub_mem 605 (by decide +kernel) rfl
theorem u_611 : (Cond.methodLink RX8 209 yX5_howManyCouldOpen) ∈ ub := ub_mem 611 (by decide +kernel) rfl
theorem u_612 : (Cond.instanceMethod yX5_howManyCouldOpen) ∈ ub := ub_mem 612 (by decide +kernel) rfl
theorem u_613 : (Cond.selects RX5 yX5_howManyCouldOpen yX5_howManyCouldOpen) ∈ ub := ub_mem 613 (by decide +kernel) rfl
theorem u_619 : (Cond.methodLink RX8 215 yX5_reasonNotToOpen) ∈ ub := ub_mem 619 (by decide +kernel) rfl
theorem u_624 : (Cond.methodLink RX8 218 yX8_mostOfAllSets) ∈ ub := ub_mem 624 (by decide +kernel) rfl
theorem u_626 : (Cond.instanceMethod yX8_mostOfAllSets) ∈ ub := ub_mem 626 (by decide +kernel) rfl
theorem u_628 : (Cond.methodLink RX8 225 yX3_canBeOpen) ∈ ub := ub_mem 628 (by decide +kernel) rfl
theorem u_629 : (Cond.instanceMethod yX3_canBeOpen) ∈ ub := ub_mem 629 (by decide +kernel) rfl
theorem u_630 : (Cond.selects RX3 yX3_canBeOpen yX3_canBeOpen) ∈ ub := ub_mem 630 (by decide +kernel) rfl
theorem u_632 : (Cond.methodLink RX3 63 yX3_heldBy) ∈ ub := ub_mem 632 (by decide +kernel) rfl
theorem u_633 : (Cond.methodLink RX8 292 Lib.Math.max.name) ∈ ub := ub_mem 633 (by decide +kernel) rfl
theorem u_634 : (Cond.methodLink RX8 221 yX8_mostDoorByDoor) ∈ ub := ub_mem 634 (by decide +kernel) rfl
theorem u_635 : (Cond.static yX8_mostDoorByDoor) ∈ ub := ub_mem 635 (by decide +kernel) rfl
theorem u_645 : (Cond.methodLink RX8 228 yX8_spot) ∈ ub := ub_mem 645 (by decide +kernel) rfl
theorem u_646 : (Cond.static yX8_spot) ∈ ub := ub_mem 646 (by decide +kernel) rfl
theorem u_648 : (Cond.methodLink RX8 231 yX7_fromNowOn) ∈ ub := ub_mem 648 (by decide +kernel) rfl
theorem u_649 : (Cond.instanceMethod yX7_fromNowOn) ∈ ub := ub_mem 649 (by decide +kernel) rfl
theorem u_650 : (Cond.selects RX7 yX7_fromNowOn yX7_fromNowOn) ∈ ub := ub_mem 650 (by decide +kernel) rfl
theorem u_652 : (Cond.methodLink RX7 22 yJ7_fill_53178) ∈ ub := ub_mem 652 (by decide +kernel) rfl
theorem u_653 : (Cond.static yJ7_fill_53178) ∈ ub := ub_mem 653 (by decide +kernel) rfl
theorem u_655 : (Cond.methodLink RX7 28 yX7_reach) ∈ ub := ub_mem 655 (by decide +kernel) rfl
theorem u_657 : (Cond.instanceMethod yX7_reach) ∈ ub := ub_mem 657 (by decide +kernel) rfl
theorem u_659 : (Cond.methodLink RX7 32 yX7_goOnFrom) ∈ ub := ub_mem 659 (by decide +kernel) rfl
theorem u_661 : (Cond.instanceMethod yX7_goOnFrom) ∈ ub := ub_mem 661 (by decide +kernel) rfl
theorem u_663 : (Cond.methodLink RX7 36 yX3_doorsOf) ∈ ub := ub_mem 663 (by decide +kernel) rfl
theorem u_664 : (Cond.methodLink RX7 42 yX3_heldBy) ∈ ub := ub_mem 664 (by decide +kernel) rfl
theorem u_665 : (Cond.methodLinkNest RX7 45 yX8_has "CordDoors") ∈ nwL := nw_mem 665 (by decide +kernel) rfl
theorem u_666 : (Cond.methodLink RX7 49 yX3_otherHall) ∈ ub := ub_mem 666 (by decide +kernel) rfl
theorem u_667 : (Cond.methodLinkNest RX7 53 yX8_spot "CordDoors") ∈ nwL := nw_mem 667 (by decide +kernel) rfl
theorem u_668 : (Cond.methodLinkNest RX7 56 yX8_without "CordDoors") ∈ nwL := nw_mem 668 (by decide +kernel) rfl
theorem u_669 : (Cond.methodLink RX7 59 yX3_afterOpening) ∈ ub := ub_mem 669 (by decide +kernel) rfl
theorem u_670 : (Cond.instanceMethod yX3_afterOpening) ∈ ub := ub_mem 670 (by decide +kernel) rfl
theorem u_671 : (Cond.selects RX3 yX3_afterOpening yX3_afterOpening) ∈ ub := ub_mem 671 (by decide +kernel) rfl
theorem u_673 : (Cond.methodLink RX3 69 yX3_afterCords) ∈ ub := ub_mem 673 (by decide +kernel) rfl
theorem u_674 : (Cond.methodLink RX3 72 yX3_afterDrafts) ∈ ub := ub_mem 674 (by decide +kernel) rfl
theorem u_675 : (Cond.methodLink RX8 235 yX7_fromHallBack) ∈ ub := ub_mem 675 (by decide +kernel) rfl
theorem u_676 : (Cond.instanceMethod yX7_fromHallBack) ∈ ub := ub_mem 676 (by decide +kernel) rfl
theorem u_677 : (Cond.selects RX7 yX7_fromHallBack yX7_fromHallBack) ∈ ub := ub_mem 677 (by decide +kernel) rfl
theorem u_679 : (Cond.methodLink RX7 62 yX7_lineUpSets) ∈ ub := ub_mem 679 (by decide +kernel) rfl
theorem u_681 : (Cond.instanceMethod yX7_lineUpSets) ∈ ub := ub_mem 681 (by decide +kernel) rfl
theorem u_683 : (Cond.methodLink RX7 66 yX7_lessenAll) ∈ ub := ub_mem 683 (by decide +kernel) rfl
theorem u_685 : (Cond.instanceMethod yX7_lessenAll) ∈ ub := ub_mem 685 (by decide +kernel) rfl
theorem u_687 : (Cond.methodLink RX7 70 yX3_lesserHall) ∈ ub := ub_mem 687 (by decide +kernel) rfl
theorem u_688 : (Cond.methodLink RX7 73 yX3_greaterHall) ∈ ub := ub_mem 688 (by decide +kernel) rfl
theorem u_689 : (Cond.methodLink RX7 76 yX7_lessen) ∈ ub := ub_mem 689 (by decide +kernel) rfl
theorem u_691 : (Cond.instanceMethod yX7_lessen) ∈ ub := ub_mem 691 (by decide +kernel) rfl
theorem u_697 : (Cond.methodLink RX8 238 yX3_cordsOf) ∈ ub := ub_mem 697 (by decide +kernel) rfl
theorem u_698 : (Cond.instanceMethod yX3_cordsOf) ∈ ub := ub_mem 698 (by decide +kernel) rfl
theorem u_699 : (Cond.selects RX3 yX3_cordsOf yX3_cordsOf) ∈ ub := ub_mem 699 (by decide +kernel) rfl
theorem u_701 : (Cond.methodLink RX8 241 yX5_shutDoors) ∈ ub := ub_mem 701 (by decide +kernel) rfl
theorem u_702 : (Cond.instanceMethod yX5_shutDoors) ∈ ub := ub_mem 702 (by decide +kernel) rfl
theorem u_703 : (Cond.selects RX5 yX5_shutDoors yX5_shutDoors) ∈ ub := ub_mem 703 (by decide +kernel) rfl
theorem u_705 : (Cond.methodLink RX8 244 yX3_pairsOfHalls) ∈ ub := ub_mem 705 (by decide +kernel) rfl
theorem u_706 : (Cond.instanceMethod yX3_pairsOfHalls) ∈ ub := ub_mem 706 (by decide +kernel) rfl
theorem u_707 : (Cond.selects RX3 yX3_pairsOfHalls yX3_pairsOfHalls) ∈ ub := ub_mem 707 (by decide +kernel) rfl
theorem u_709 : (Cond.methodLink RX3 78 yX3_hallsFrom) ∈ ub := ub_mem 709 (by decide +kernel) rfl
theorem u_710 : (Cond.methodLink RX8 247 yX3_pairsOfDoors) ∈ ub := ub_mem 710 (by decide +kernel) rfl
theorem u_711 : (Cond.instanceMethod yX3_pairsOfDoors) ∈ ub := ub_mem 711 (by decide +kernel) rfl
theorem u_712 : (Cond.selects RX3 yX3_pairsOfDoors yX3_pairsOfDoors) ∈ ub := ub_mem 712 (by decide +kernel) rfl
theorem u_722 : (Cond.methodLink RX8 268 yX3_afterCords) ∈ ub := ub_mem 722 (by decide +kernel) rfl
theorem u_723 : (Cond.methodLink RX8 271 yX3_afterDrafts) ∈ ub := ub_mem 723 (by decide +kernel) rfl
theorem u_728 : (Cond.methodLink RX8 274 yX2_takeBack) ∈ ub := ub_mem 728 (by decide +kernel) rfl
theorem u_729 : (Cond.instanceMethod yX2_takeBack) ∈ ub := ub_mem 729 (by decide +kernel) rfl
theorem u_730 : (Cond.selects RX2 yX2_takeBack yX2_takeBack) ∈ ub := ub_mem 730 (by decide +kernel) rfl
theorem u_736 : (Cond.methodLink RX8 277 yX5_copy) ∈ ub := ub_mem 736 (by decide +kernel) rfl
theorem u_747 : (Cond.methodLink RX9 44 yX9_lay) ∈ ub := ub_mem 747 (by decide +kernel) rfl
theorem u_749 : (Cond.instanceMethod yX9_lay) ∈ ub := ub_mem 749 (by decide +kernel) rfl
theorem u_807 : (Cond.methodLink RX9 59 yX9_copyState) ∈ ub := ub_mem 807 (by decide +kernel) rfl
theorem u_808 : (Cond.static yX9_copyState) ∈ ub := ub_mem 808 (by decide +kernel) rfl
theorem u_814 : (Cond.methodLink RX9 67 yX9_openSet) ∈ ub := ub_mem 814 (by decide +kernel) rfl
theorem u_816 : (Cond.instanceMethod yX9_openSet) ∈ ub := ub_mem 816 (by decide +kernel) rfl
theorem u_818 : (Cond.methodLink RX9 52 yX9_of) ∈ ub := ub_mem 818 (by decide +kernel) rfl
theorem u_820 : (Cond.instanceMethod yX9_of) ∈ ub := ub_mem 820 (by decide +kernel) rfl
theorem u_826 : (Cond.methodLink RX9 71 yX9_record) ∈ ub := ub_mem 826 (by decide +kernel) rfl
theorem u_828 : (Cond.instanceMethod yX9_record) ∈ ub := ub_mem 828 (by decide +kernel) rfl
theorem u_834 : (Cond.methodLink RX9 127 yX9_isDoor) ∈ ub := ub_mem 834 (by decide +kernel) rfl
theorem u_835 : (Cond.static yX9_isDoor) ∈ ub := ub_mem 835 (by decide +kernel) rfl
theorem u_837 : (Cond.methodLink RX9 48 yX9_in) ∈ ub := ub_mem 837 (by decide +kernel) rfl
theorem u_838 : (Cond.static yX9_in) ∈ ub := ub_mem 838 (by decide +kernel) rfl
theorem u_840 : (Cond.methodLink RX9 118 yX9_openNow) ∈ ub := ub_mem 840 (by decide +kernel) rfl
theorem u_842 : (Cond.instanceMethod yX9_openNow) ∈ ub := ub_mem 842 (by decide +kernel) rfl
theorem u_844 : (Cond.methodLink RX9 100 yX9_reason) ∈ ub := ub_mem 844 (by decide +kernel) rfl
theorem u_846 : (Cond.instanceMethod yX9_reason) ∈ ub := ub_mem 846 (by decide +kernel) rfl
theorem u_848 : (Cond.methodLink RX9 78 yX9_isOpen) ∈ ub := ub_mem 848 (by decide +kernel) rfl
theorem u_850 : (Cond.instanceMethod yX9_isOpen) ∈ ub := ub_mem 850 (by decide +kernel) rfl
theorem u_852 : (Cond.methodLink RX9 82 yX9_cordsTo) ∈ ub := ub_mem 852 (by decide +kernel) rfl
theorem u_854 : (Cond.instanceMethod yX9_cordsTo) ∈ ub := ub_mem 854 (by decide +kernel) rfl
theorem u_856 : (Cond.methodLink RX9 74 yX9_goesTo) ∈ ub := ub_mem 856 (by decide +kernel) rfl
theorem u_858 : (Cond.instanceMethod yX9_goesTo) ∈ ub := ub_mem 858 (by decide +kernel) rfl
theorem u_860 : (Cond.methodLink RX9 103 yX9_refuse) ∈ ub := ub_mem 860 (by decide +kernel) rfl
theorem u_862 : (Cond.instanceMethod yX9_refuse) ∈ ub := ub_mem 862 (by decide +kernel) rfl
theorem u_864 : (Cond.methodLink RX9 106 yX9_opens) ∈ ub := ub_mem 864 (by decide +kernel) rfl
theorem u_866 : (Cond.instanceMethod yX9_opens) ∈ ub := ub_mem 866 (by decide +kernel) rfl
theorem u_868 : (Cond.methodLink RX9 89 yX9_shuts) ∈ ub := ub_mem 868 (by decide +kernel) rfl
theorem u_870 : (Cond.instanceMethod yX9_shuts) ∈ ub := ub_mem 870 (by decide +kernel) rfl
theorem u_872 : (Cond.methodLink RX9 93 yX9_openIn) ∈ ub := ub_mem 872 (by decide +kernel) rfl
theorem u_874 : (Cond.instanceMethod yX9_openIn) ∈ ub := ub_mem 874 (by decide +kernel) rfl
theorem u_876 : (Cond.methodLink RX9 86 yX9_joins) ∈ ub := ub_mem 876 (by decide +kernel) rfl
theorem u_878 : (Cond.instanceMethod yX9_joins) ∈ ub := ub_mem 878 (by decide +kernel) rfl
theorem u_880 : (Cond.methodLink RX9 97 yX9_lowestIn) ∈ ub := ub_mem 880 (by decide +kernel) rfl
theorem u_882 : (Cond.instanceMethod yX9_lowestIn) ∈ ub := ub_mem 882 (by decide +kernel) rfl
theorem u_888 : (Cond.methodLink RX9 121 yX9_shutNow) ∈ ub := ub_mem 888 (by decide +kernel) rfl
theorem u_890 : (Cond.instanceMethod yX9_shutNow) ∈ ub := ub_mem 890 (by decide +kernel) rfl
theorem u_896 : (Cond.methodLink RX9 130 yX9_isGuest) ∈ ub := ub_mem 896 (by decide +kernel) rfl
theorem u_897 : (Cond.static yX9_isGuest) ∈ ub := ub_mem 897 (by decide +kernel) rfl
theorem u_899 : (Cond.methodLink RX9 133 yX9_guestOpensNow) ∈ ub := ub_mem 899 (by decide +kernel) rfl
theorem u_901 : (Cond.instanceMethod yX9_guestOpensNow) ∈ ub := ub_mem 901 (by decide +kernel) rfl
theorem u_903 : (Cond.methodLink RX9 112 yX9_isAt) ∈ ub := ub_mem 903 (by decide +kernel) rfl
theorem u_905 : (Cond.instanceMethod yX9_isAt) ∈ ub := ub_mem 905 (by decide +kernel) rfl
theorem u_907 : (Cond.methodLink RX9 109 yX9_ofGuest) ∈ ub := ub_mem 907 (by decide +kernel) rfl
theorem u_909 : (Cond.instanceMethod yX9_ofGuest) ∈ ub := ub_mem 909 (by decide +kernel) rfl
theorem u_911 : (Cond.methodLink RX9 115 yX9_hasKey) ∈ ub := ub_mem 911 (by decide +kernel) rfl
theorem u_913 : (Cond.instanceMethod yX9_hasKey) ∈ ub := ub_mem 913 (by decide +kernel) rfl
theorem u_919 : (Cond.methodLink RX9 136 yX9_guestShutsNow) ∈ ub := ub_mem 919 (by decide +kernel) rfl
theorem u_921 : (Cond.instanceMethod yX9_guestShutsNow) ∈ ub := ub_mem 921 (by decide +kernel) rfl
theorem u_927 : (Cond.methodLink RX9 139 yX9_walkNow) ∈ ub := ub_mem 927 (by decide +kernel) rfl
theorem u_929 : (Cond.instanceMethod yX9_walkNow) ∈ ub := ub_mem 929 (by decide +kernel) rfl
theorem u_931 : (Cond.methodLink RX9 124 yX9_across) ∈ ub := ub_mem 931 (by decide +kernel) rfl
theorem u_933 : (Cond.instanceMethod yX9_across) ∈ ub := ub_mem 933 (by decide +kernel) rfl
theorem u_943 : (Cond.methodLink RX9 145 yX9_isHall) ∈ ub := ub_mem 943 (by decide +kernel) rfl
theorem u_944 : (Cond.static yX9_isHall) ∈ ub := ub_mem 944 (by decide +kernel) rfl
theorem u_946 : (Cond.methodLink RX9 142 yX9_lesserHall) ∈ ub := ub_mem 946 (by decide +kernel) rfl
theorem u_948 : (Cond.instanceMethod yX9_lesserHall) ∈ ub := ub_mem 948 (by decide +kernel) rfl
theorem u_950 : (Cond.methodLink RX9 148 yX9_greaterHall) ∈ ub := ub_mem 950 (by decide +kernel) rfl
theorem u_952 : (Cond.instanceMethod yX9_greaterHall) ∈ ub := ub_mem 952 (by decide +kernel) rfl
theorem u_974 : (Cond.methodLink RX9 173 yX9_readPad) ∈ ub := ub_mem 974 (by decide +kernel) rfl
theorem u_976 : (Cond.instanceMethod yX9_readPad) ∈ ub := ub_mem 976 (by decide +kernel) rfl
theorem u_978 : (Cond.methodLink RX9 169 yX9_readDeed) ∈ ub := ub_mem 978 (by decide +kernel) rfl
theorem u_980 : (Cond.instanceMethod yX9_readDeed) ∈ ub := ub_mem 980 (by decide +kernel) rfl
theorem u_982 : (Cond.methodLink RX9 163 yX9_takes) ∈ ub := ub_mem 982 (by decide +kernel) rfl
theorem u_984 : (Cond.instanceMethod yX9_takes) ∈ ub := ub_mem 984 (by decide +kernel) rfl
theorem u_986 : (Cond.methodLink RX9 157 yX9_sees) ∈ ub := ub_mem 986 (by decide +kernel) rfl
theorem u_988 : (Cond.instanceMethod yX9_sees) ∈ ub := ub_mem 988 (by decide +kernel) rfl
theorem u_990 : (Cond.methodLink RX9 166 yX9_takesOne) ∈ ub := ub_mem 990 (by decide +kernel) rfl
theorem u_992 : (Cond.instanceMethod yX9_takesOne) ∈ ub := ub_mem 992 (by decide +kernel) rfl
theorem u_998 : (Cond.methodLink RX9 176 yX9_doDeed) ∈ ub := ub_mem 998 (by decide +kernel) rfl
theorem u_1000 : (Cond.instanceMethod yX9_doDeed) ∈ ub := ub_mem 1000 (by decide +kernel) rfl
theorem u_1014 : (Cond.methodLink RX9 179 yX9_doorsOf) ∈ ub := ub_mem 1014 (by decide +kernel) rfl
theorem u_1016 : (Cond.instanceMethod yX9_doorsOf) ∈ ub := ub_mem 1016 (by decide +kernel) rfl
theorem u_1018 : (Cond.methodLink RX9 182 yX9_guestsIn) ∈ ub := ub_mem 1018 (by decide +kernel) rfl
theorem u_1020 : (Cond.instanceMethod yX9_guestsIn) ∈ ub := ub_mem 1020 (by decide +kernel) rfl
theorem u_1022 : (Cond.methodLink RX9 185 yX9_hangs) ∈ ub := ub_mem 1022 (by decide +kernel) rfl
theorem u_1024 : (Cond.instanceMethod yX9_hangs) ∈ ub := ub_mem 1024 (by decide +kernel) rfl
theorem u_1026 : (Cond.methodLink RX9 188 yX9_size) ∈ ub := ub_mem 1026 (by decide +kernel) rfl
theorem u_1027 : (Cond.static yX9_size) ∈ ub := ub_mem 1027 (by decide +kernel) rfl
theorem u_1033 : (Cond.methodLink RX9 191 yX9_canOpen) ∈ ub := ub_mem 1033 (by decide +kernel) rfl
theorem u_1035 : (Cond.instanceMethod yX9_canOpen) ∈ ub := ub_mem 1035 (by decide +kernel) rfl
theorem u_1045 : (Cond.methodLink RX9 194 yX9_canBe) ∈ ub := ub_mem 1045 (by decide +kernel) rfl
theorem u_1047 : (Cond.instanceMethod yX9_canBe) ∈ ub := ub_mem 1047 (by decide +kernel) rfl
theorem u_1057 : (Cond.methodLink RX9 204 yX9_reach) ∈ ub := ub_mem 1057 (by decide +kernel) rfl
theorem u_1059 : (Cond.instanceMethod yX9_reach) ∈ ub := ub_mem 1059 (by decide +kernel) rfl
theorem u_1061 : (Cond.methodLink RX9 207 yX9_goOn) ∈ ub := ub_mem 1061 (by decide +kernel) rfl
theorem u_1063 : (Cond.instanceMethod yX9_goOn) ∈ ub := ub_mem 1063 (by decide +kernel) rfl
theorem u_1065 : (Cond.methodLink RX9 200 yX9_laySet) ∈ ub := ub_mem 1065 (by decide +kernel) rfl
theorem u_1067 : (Cond.instanceMethod yX9_laySet) ∈ ub := ub_mem 1067 (by decide +kernel) rfl
theorem u_1073 : (Cond.methodLink RX9 210 yX9_cords) ∈ ub := ub_mem 1073 (by decide +kernel) rfl
theorem u_1075 : (Cond.instanceMethod yX9_cords) ∈ ub := ub_mem 1075 (by decide +kernel) rfl
theorem u_1077 : (Cond.methodLink RX9 214 yX9_held) ∈ ub := ub_mem 1077 (by decide +kernel) rfl
theorem u_1079 : (Cond.instanceMethod yX9_held) ∈ ub := ub_mem 1079 (by decide +kernel) rfl
theorem u_1081 : (Cond.methodLink RX9 217 yX9_pairsOfHalls) ∈ ub := ub_mem 1081 (by decide +kernel) rfl
theorem u_1083 : (Cond.instanceMethod yX9_pairsOfHalls) ∈ ub := ub_mem 1083 (by decide +kernel) rfl
theorem u_1085 : (Cond.methodLink RX9 220 yX9_pairsOfDoors) ∈ ub := ub_mem 1085 (by decide +kernel) rfl
theorem u_1087 : (Cond.instanceMethod yX9_pairsOfDoors) ∈ ub := ub_mem 1087 (by decide +kernel) rfl
theorem gf_X0_15 : GF RX0 15 0 1 := ⟨RX0, TX0, 7, rfl, inX0, by decide, ub_mem 155 (by decide +kernel) rfl⟩
theorem gf_X0_18 : GF RX0 18 0 2 := ⟨RX0, TX0, 7, rfl, inX0, by decide, ub_mem 157 (by decide +kernel) rfl⟩
theorem gf_X0_22 : GF RX0 22 0 3 := ⟨RX0, TX0, 7, rfl, inX0, by decide, ub_mem 159 (by decide +kernel) rfl⟩
theorem gf_X0_25 : GF RX0 25 0 4 := ⟨RX0, TX0, 7, rfl, inX0, by decide, ub_mem 161 (by decide +kernel) rfl⟩
theorem gf_X0_28 : GF RX0 28 0 5 := ⟨RX0, TX0, 7, rfl, inX0, by decide, ub_mem 163 (by decide +kernel) rfl⟩
theorem gf_X0_31 : GF RX0 31 0 6 := ⟨RX0, TX0, 7, rfl, inX0, by decide, ub_mem 165 (by decide +kernel) rfl⟩
theorem gf_X0_9 : GF RX0 9 0 0 := ⟨RX0, TX0, 7, rfl, inX0, by decide, ub_mem 153 (by decide +kernel) rfl⟩
theorem gf_X1_15 : GF RX1 15 1 1 := ⟨RX1, TX1, 3, rfl, inX1, by decide, ub_mem 134 (by decide +kernel) rfl⟩
theorem gf_X1_18 : GF RX1 18 1 2 := ⟨RX1, TX1, 3, rfl, inX1, by decide, ub_mem 137 (by decide +kernel) rfl⟩
theorem gf_X1_9 : GF RX1 9 1 0 := ⟨RX1, TX1, 3, rfl, inX1, by decide, ub_mem 131 (by decide +kernel) rfl⟩
theorem gf_X2_11 : GF RX2 11 2 0 := ⟨RX2, TX2, 3, rfl, inX2, by decide, ub_mem 208 (by decide +kernel) rfl⟩
theorem gf_X2_17 : GF RX2 17 2 1 := ⟨RX2, TX2, 3, rfl, inX2, by decide, ub_mem 209 (by decide +kernel) rfl⟩
theorem gf_X2_21 : GF RX2 21 2 2 := ⟨RX2, TX2, 3, rfl, inX2, by decide, ub_mem 210 (by decide +kernel) rfl⟩
theorem gf_X3_15 : GF RX3 15 3 1 := ⟨RX3, TX3, 6, rfl, inX3, by decide, ub_mem 105 (by decide +kernel) rfl⟩
theorem gf_X3_18 : GF RX3 18 3 2 := ⟨RX3, TX3, 6, rfl, inX3, by decide, ub_mem 106 (by decide +kernel) rfl⟩
theorem gf_X3_21 : GF RX3 21 3 3 := ⟨RX3, TX3, 6, rfl, inX3, by decide, ub_mem 107 (by decide +kernel) rfl⟩
theorem gf_X3_24 : GF RX3 24 3 4 := ⟨RX3, TX3, 6, rfl, inX3, by decide, ub_mem 108 (by decide +kernel) rfl⟩
theorem gf_X3_27 : GF RX3 27 3 5 := ⟨RX3, TX3, 6, rfl, inX3, by decide, ub_mem 109 (by decide +kernel) rfl⟩
theorem gf_X3_9 : GF RX3 9 3 0 := ⟨RX3, TX3, 6, rfl, inX3, by decide, ub_mem 104 (by decide +kernel) rfl⟩
theorem gf_X4_15 : GF RX4 15 4 1 := ⟨RX4, TX4, 2, rfl, inX4, by decide, ub_mem 226 (by decide +kernel) rfl⟩
theorem gf_X4_9 : GF RX4 9 4 0 := ⟨RX4, TX4, 2, rfl, inX4, by decide, ub_mem 225 (by decide +kernel) rfl⟩
theorem gf_X5_12 : GF RX5 12 5 0 := ⟨RX5, TX5, 4, rfl, inX5, by decide, ub_mem 182 (by decide +kernel) rfl⟩
theorem gf_X5_21 : GF RX5 21 5 1 := ⟨RX5, TX5, 4, rfl, inX5, by decide, ub_mem 184 (by decide +kernel) rfl⟩
theorem gf_X5_28 : GF RX5 28 5 2 := ⟨RX5, TX5, 4, rfl, inX5, by decide, ub_mem 186 (by decide +kernel) rfl⟩
theorem gf_X5_32 : GF RX5 32 5 3 := ⟨RX5, TX5, 4, rfl, inX5, by decide, ub_mem 188 (by decide +kernel) rfl⟩
theorem gf_X5_58 : GFN RX5 58 1 0 := ⟨RX1, TX1, 3, "CordDoors", rfl, inX1, by decide, nw_mem 132 (by decide +kernel) rfl⟩
theorem gf_X5_68 : GFN RX5 68 1 1 := ⟨RX1, TX1, 3, "CordDoors", rfl, inX1, by decide, nw_mem 136 (by decide +kernel) rfl⟩
theorem gf_X5_96 : GFN RX5 96 1 2 := ⟨RX1, TX1, 3, "CordDoors", rfl, inX1, by decide, nw_mem 138 (by decide +kernel) rfl⟩
theorem gf_X6_15 : GF RX6 15 6 1 := ⟨RX6, TX6, 3, rfl, inX6, by decide, ub_mem 241 (by decide +kernel) rfl⟩
theorem gf_X6_18 : GF RX6 18 6 2 := ⟨RX6, TX6, 3, rfl, inX6, by decide, ub_mem 243 (by decide +kernel) rfl⟩
theorem gf_X6_9 : GF RX6 9 6 0 := ⟨RX6, TX6, 3, rfl, inX6, by decide, ub_mem 239 (by decide +kernel) rfl⟩
theorem gf_X7_15 : GF RX7 15 7 1 := ⟨RX7, TX7, 3, rfl, inX7, by decide, ub_mem 259 (by decide +kernel) rfl⟩
theorem gf_X7_18 : GF RX7 18 7 2 := ⟨RX7, TX7, 3, rfl, inX7, by decide, ub_mem 260 (by decide +kernel) rfl⟩
theorem gf_X7_9 : GF RX7 9 7 0 := ⟨RX7, TX7, 3, rfl, inX7, by decide, ub_mem 258 (by decide +kernel) rfl⟩
theorem gf_X8_102 : GFN RX8 102 5 1 := ⟨RX5, TX5, 4, "CordDoors", rfl, inX5, by decide, nw_mem 185 (by decide +kernel) rfl⟩
theorem gf_X8_106 : GFN RX8 106 1 1 := ⟨RX1, TX1, 3, "CordDoors", rfl, inX1, by decide, nw_mem 135 (by decide +kernel) rfl⟩
theorem gf_X8_112 : GFN RX8 112 3 5 := ⟨RX3, TX3, 6, "CordDoors", rfl, inX3, by decide, nw_mem 110 (by decide +kernel) rfl⟩
theorem gf_X8_12 : GF RX8 12 8 0 := ⟨RX8, TX8, 7, rfl, inX8, by decide, ub_mem 268 (by decide +kernel) rfl⟩
theorem gf_X8_126 : GFN RX8 126 4 1 := ⟨RX4, TX4, 2, "CordDoors", rfl, inX4, by decide, nw_mem 227 (by decide +kernel) rfl⟩
theorem gf_X8_155 : GFN RX8 155 6 0 := ⟨RX6, TX6, 3, "CordDoors", rfl, inX6, by decide, nw_mem 240 (by decide +kernel) rfl⟩
theorem gf_X8_158 : GFN RX8 158 6 1 := ⟨RX6, TX6, 3, "CordDoors", rfl, inX6, by decide, nw_mem 242 (by decide +kernel) rfl⟩
theorem gf_X8_161 : GFN RX8 161 6 2 := ⟨RX6, TX6, 3, "CordDoors", rfl, inX6, by decide, nw_mem 244 (by decide +kernel) rfl⟩
theorem gf_X8_167 : GFN RX8 167 5 3 := ⟨RX5, TX5, 4, "CordDoors", rfl, inX5, by decide, nw_mem 189 (by decide +kernel) rfl⟩
theorem gf_X8_180 : GFN RX8 180 5 2 := ⟨RX5, TX5, 4, "CordDoors", rfl, inX5, by decide, nw_mem 187 (by decide +kernel) rfl⟩
theorem gf_X8_184 : GFN RX8 184 0 0 := ⟨RX0, TX0, 7, "CordDoors", rfl, inX0, by decide, nw_mem 154 (by decide +kernel) rfl⟩
theorem gf_X8_189 : GFN RX8 189 0 1 := ⟨RX0, TX0, 7, "CordDoors", rfl, inX0, by decide, nw_mem 156 (by decide +kernel) rfl⟩
theorem gf_X8_19 : GF RX8 19 8 1 := ⟨RX8, TX8, 7, rfl, inX8, by decide, ub_mem 269 (by decide +kernel) rfl⟩
theorem gf_X8_206 : GFN RX8 206 1 0 := ⟨RX1, TX1, 3, "CordDoors", rfl, inX1, by decide, nw_mem 133 (by decide +kernel) rfl⟩
theorem gf_X8_212 : GFN RX8 212 1 2 := ⟨RX1, TX1, 3, "CordDoors", rfl, inX1, by decide, nw_mem 139 (by decide +kernel) rfl⟩
theorem gf_X8_23 : GF RX8 23 8 2 := ⟨RX8, TX8, 7, rfl, inX8, by decide, ub_mem 270 (by decide +kernel) rfl⟩
theorem gf_X8_250 : GFN RX8 250 0 2 := ⟨RX0, TX0, 7, "CordDoors", rfl, inX0, by decide, nw_mem 158 (by decide +kernel) rfl⟩
theorem gf_X8_253 : GFN RX8 253 0 3 := ⟨RX0, TX0, 7, "CordDoors", rfl, inX0, by decide, nw_mem 160 (by decide +kernel) rfl⟩
theorem gf_X8_256 : GFN RX8 256 0 4 := ⟨RX0, TX0, 7, "CordDoors", rfl, inX0, by decide, nw_mem 162 (by decide +kernel) rfl⟩
theorem gf_X8_259 : GFN RX8 259 0 5 := ⟨RX0, TX0, 7, "CordDoors", rfl, inX0, by decide, nw_mem 164 (by decide +kernel) rfl⟩
theorem gf_X8_26 : GF RX8 26 8 3 := ⟨RX8, TX8, 7, rfl, inX8, by decide, ub_mem 271 (by decide +kernel) rfl⟩
theorem gf_X8_262 : GFN RX8 262 0 6 := ⟨RX0, TX0, 7, "CordDoors", rfl, inX0, by decide, nw_mem 166 (by decide +kernel) rfl⟩
theorem gf_X8_265 : GFN RX8 265 2 2 := ⟨RX2, TX2, 3, "CordDoors", rfl, inX2, by decide, nw_mem 211 (by decide +kernel) rfl⟩
theorem gf_X8_33 : GF RX8 33 8 4 := ⟨RX8, TX8, 7, rfl, inX8, by decide, ub_mem 272 (by decide +kernel) rfl⟩
theorem gf_X8_40 : GF RX8 40 8 5 := ⟨RX8, TX8, 7, rfl, inX8, by decide, ub_mem 273 (by decide +kernel) rfl⟩
theorem gf_X8_47 : GF RX8 47 8 6 := ⟨RX8, TX8, 7, rfl, inX8, by decide, ub_mem 274 (by decide +kernel) rfl⟩
theorem gf_X8_66 : GFN RX8 66 5 0 := ⟨RX5, TX5, 4, "CordDoors", rfl, inX5, by decide, nw_mem 183 (by decide +kernel) rfl⟩
theorem gf_X9_13 : GF RX9 13 9 1 := ⟨RX9, TX9, 17, rfl, inX9, by decide, ub_mem 752 (by decide +kernel) rfl⟩
theorem gf_X9_151 : GF RX9 151 9 7 := ⟨RX9, TX9, 17, rfl, inX9, by decide, ub_mem 758 (by decide +kernel) rfl⟩
theorem gf_X9_154 : GF RX9 154 9 11 := ⟨RX9, TX9, 17, rfl, inX9, by decide, ub_mem 762 (by decide +kernel) rfl⟩
theorem gf_X9_16 : GF RX9 16 9 2 := ⟨RX9, TX9, 17, rfl, inX9, by decide, ub_mem 753 (by decide +kernel) rfl⟩
theorem gf_X9_160 : GF RX9 160 9 13 := ⟨RX9, TX9, 17, rfl, inX9, by decide, ub_mem 764 (by decide +kernel) rfl⟩
theorem gf_X9_19 : GF RX9 19 9 4 := ⟨RX9, TX9, 17, rfl, inX9, by decide, ub_mem 755 (by decide +kernel) rfl⟩
theorem gf_X9_197 : GF RX9 197 9 16 := ⟨RX9, TX9, 17, rfl, inX9, by decide, ub_mem 767 (by decide +kernel) rfl⟩
theorem gf_X9_22 : GF RX9 22 9 6 := ⟨RX9, TX9, 17, rfl, inX9, by decide, ub_mem 757 (by decide +kernel) rfl⟩
theorem gf_X9_25 : GF RX9 25 9 8 := ⟨RX9, TX9, 17, rfl, inX9, by decide, ub_mem 759 (by decide +kernel) rfl⟩
theorem gf_X9_29 : GF RX9 29 9 9 := ⟨RX9, TX9, 17, rfl, inX9, by decide, ub_mem 760 (by decide +kernel) rfl⟩
theorem gf_X9_32 : GF RX9 32 9 10 := ⟨RX9, TX9, 17, rfl, inX9, by decide, ub_mem 761 (by decide +kernel) rfl⟩
theorem gf_X9_35 : GF RX9 35 9 12 := ⟨RX9, TX9, 17, rfl, inX9, by decide, ub_mem 763 (by decide +kernel) rfl⟩
theorem gf_X9_38 : GF RX9 38 9 14 := ⟨RX9, TX9, 17, rfl, inX9, by decide, ub_mem 765 (by decide +kernel) rfl⟩
theorem gf_X9_41 : GF RX9 41 9 15 := ⟨RX9, TX9, 17, rfl, inX9, by decide, ub_mem 766 (by decide +kernel) rfl⟩
theorem gf_X9_56 : GF RX9 56 9 3 := ⟨RX9, TX9, 17, rfl, inX9, by decide, ub_mem 754 (by decide +kernel) rfl⟩
theorem gf_X9_63 : GF RX9 63 9 5 := ⟨RX9, TX9, 17, rfl, inX9, by decide, ub_mem 756 (by decide +kernel) rfl⟩
theorem gf_X9_7 : GF RX9 7 9 0 := ⟨RX9, TX9, 17, rfl, inX9, by decide, ub_mem 751 (by decide +kernel) rfl⟩
theorem mf_J6_bitCount_0f7a4 : MF yJ6_bitCount_0f7a4 cJ6_bitCount_0f7a4 1 (some .int) 1 := ⟨ub_mem 368 (by decide +kernel) rfl, ub_mem 72 (by decide +kernel) rfl, by decide +kernel⟩
theorem mf_J7_fill_53178 : MF yJ7_fill_53178 cJ7_fill_53178 4 none 2 := ⟨ub_mem 654 (by decide +kernel) rfl, ub_mem 73 (by decide +kernel) rfl, by decide +kernel⟩
theorem mf_X0_copy : MF yX0_copy cX0_copy 2 none 1 := ⟨ub_mem 320 (by decide +kernel) rfl, ub_mem 65 (by decide +kernel) rfl, by decide +kernel⟩
theorem mf_X0_noteOpened : MF yX0_noteOpened cX0_noteOpened 2 none 1 := ⟨ub_mem 378 (by decide +kernel) rfl, ub_mem 65 (by decide +kernel) rfl, by decide +kernel⟩
theorem mf_X0_noteRefused : MF yX0_noteRefused cX0_noteRefused 2 (some .int) 1 := ⟨ub_mem 353 (by decide +kernel) rfl, ub_mem 65 (by decide +kernel) rfl, by decide +kernel⟩
theorem mf_X0_noteShutByHand : MF yX0_noteShutByHand cX0_noteShutByHand 2 none 1 := ⟨ub_mem 405 (by decide +kernel) rfl, ub_mem 65 (by decide +kernel) rfl, by decide +kernel⟩
theorem mf_X0_noteShutByOpening : MF yX0_noteShutByOpening cX0_noteShutByOpening 4 none 2 := ⟨ub_mem 382 (by decide +kernel) rfl, ub_mem 65 (by decide +kernel) rfl, by decide +kernel⟩
theorem mf_X1_copy : MF yX1_copy cX1_copy 2 none 1 := ⟨ub_mem 315 (by decide +kernel) rfl, ub_mem 64 (by decide +kernel) rfl, by decide +kernel⟩
theorem mf_X1_howManyIn : MF yX1_howManyIn cX1_howManyIn 4 (some .int) 1 := ⟨ub_mem 602 (by decide +kernel) rfl, ub_mem 64 (by decide +kernel) rfl, by decide +kernel⟩
theorem mf_X2_record : MF yX2_record cX2_record 2 none 1 := ⟨ub_mem 300 (by decide +kernel) rfl, ub_mem 66 (by decide +kernel) rfl, by decide +kernel⟩
theorem mf_X2_takeBack : MF yX2_takeBack cX2_takeBack 2 none 1 := ⟨ub_mem 731 (by decide +kernel) rfl, ub_mem 66 (by decide +kernel) rfl, by decide +kernel⟩
theorem mf_X3_afterCords : MF yX3_afterCords cX3_afterCords 3 (some .int) 2 := ⟨ub_mem 357 (by decide +kernel) rfl, ub_mem 62 (by decide +kernel) rfl, by decide +kernel⟩
theorem mf_X3_afterDrafts : MF yX3_afterDrafts cX3_afterDrafts 8 (some .int) 2 := ⟨ub_mem 361 (by decide +kernel) rfl, ub_mem 62 (by decide +kernel) rfl, by decide +kernel⟩
theorem mf_X3_afterOpening : MF yX3_afterOpening cX3_afterOpening 3 (some .int) 2 := ⟨ub_mem 672 (by decide +kernel) rfl, ub_mem 62 (by decide +kernel) rfl, by decide +kernel⟩
theorem mf_X3_canBeOpen : MF yX3_canBeOpen cX3_canBeOpen 3 (some .boolean) 1 := ⟨ub_mem 631 (by decide +kernel) rfl, ub_mem 62 (by decide +kernel) rfl, by decide +kernel⟩
theorem mf_X3_copy : MF yX3_copy cX3_copy 2 none 1 := ⟨ub_mem 308 (by decide +kernel) rfl, ub_mem 62 (by decide +kernel) rfl, by decide +kernel⟩
theorem mf_X3_cordOf : MF yX3_cordOf cX3_cordOf 3 (some .int) 2 := ⟨ub_mem 414 (by decide +kernel) rfl, ub_mem 62 (by decide +kernel) rfl, by decide +kernel⟩
theorem mf_X3_cordsOf : MF yX3_cordsOf cX3_cordsOf 4 (some .int) 1 := ⟨ub_mem 700 (by decide +kernel) rfl, ub_mem 62 (by decide +kernel) rfl, by decide +kernel⟩
theorem mf_X3_cordsTo : MF yX3_cordsTo cX3_cordsTo 5 (some .int) 2 := ⟨ub_mem 592 (by decide +kernel) rfl, ub_mem 62 (by decide +kernel) rfl, by decide +kernel⟩
theorem mf_X3_doorsOf : MF yX3_doorsOf cX3_doorsOf 2 (some .int) 1 := ⟨ub_mem 473 (by decide +kernel) rfl, ub_mem 62 (by decide +kernel) rfl, by decide +kernel⟩
theorem mf_X3_greaterHall : MF yX3_greaterHall cX3_greaterHall 2 (some .int) 1 := ⟨ub_mem 438 (by decide +kernel) rfl, ub_mem 62 (by decide +kernel) rfl, by decide +kernel⟩
theorem mf_X3_hallsFrom : MF yX3_hallsFrom cX3_hallsFrom 7 (some .int) 2 := ⟨ub_mem 606 (by decide +kernel) rfl, ub_mem 62 (by decide +kernel) rfl, by decide +kernel⟩
theorem mf_X3_hang : MF yX3_hang cX3_hang 4 none 3 := ⟨ub_mem 97 (by decide +kernel) rfl, ub_mem 62 (by decide +kernel) rfl, by decide +kernel⟩
theorem mf_X3_hasTooMany : MF yX3_hasTooMany cX3_hasTooMany 3 (some .boolean) 2 := ⟨ub_mem 365 (by decide +kernel) rfl, ub_mem 62 (by decide +kernel) rfl, by decide +kernel⟩
theorem mf_X3_heldBy : MF yX3_heldBy cX3_heldBy 4 (some .int) 1 := ⟨ub_mem 340 (by decide +kernel) rfl, ub_mem 62 (by decide +kernel) rfl, by decide +kernel⟩
theorem mf_X3_layCord : MF yX3_layCord cX3_layCord 4 none 3 := ⟨ub_mem 422 (by decide +kernel) rfl, ub_mem 62 (by decide +kernel) rfl, by decide +kernel⟩
theorem mf_X3_lesserHall : MF yX3_lesserHall cX3_lesserHall 2 (some .int) 1 := ⟨ub_mem 434 (by decide +kernel) rfl, ub_mem 62 (by decide +kernel) rfl, by decide +kernel⟩
theorem mf_X3_otherHall : MF yX3_otherHall cX3_otherHall 3 (some .int) 2 := ⟨ub_mem 497 (by decide +kernel) rfl, ub_mem 62 (by decide +kernel) rfl, by decide +kernel⟩
theorem mf_X3_pairsOfDoors : MF yX3_pairsOfDoors cX3_pairsOfDoors 4 (some .int) 0 := ⟨ub_mem 713 (by decide +kernel) rfl, ub_mem 62 (by decide +kernel) rfl, by decide +kernel⟩
theorem mf_X3_pairsOfHalls : MF yX3_pairsOfHalls cX3_pairsOfHalls 4 (some .int) 1 := ⟨ub_mem 708 (by decide +kernel) rfl, ub_mem 62 (by decide +kernel) rfl, by decide +kernel⟩
theorem mf_X3_targetsOf : MF yX3_targetsOf cX3_targetsOf 2 (some .int) 1 := ⟨ub_mem 345 (by decide +kernel) rfl, ub_mem 62 (by decide +kernel) rfl, by decide +kernel⟩
theorem mf_X4_add : MF yX4_add cX4_add 2 (some .int) 1 := ⟨ub_mem 505 (by decide +kernel) rfl, ub_mem 67 (by decide +kernel) rfl, by decide +kernel⟩
theorem mf_X4_codeAt : MF yX4_codeAt cX4_codeAt 2 (some .int) 1 := ⟨ub_mem 525 (by decide +kernel) rfl, ub_mem 67 (by decide +kernel) rfl, by decide +kernel⟩
theorem mf_X4_doorOfDeed : MF yX4_doorOfDeed cX4_doorOfDeed 2 (some .int) 1 := ⟨ub_mem 550 (by decide +kernel) rfl, ub_mem 67 (by decide +kernel) rfl, by decide +kernel⟩
theorem mf_X4_empty : MF yX4_empty cX4_empty 2 (some .int) 0 := ⟨ub_mem 513 (by decide +kernel) rfl, ub_mem 67 (by decide +kernel) rfl, by decide +kernel⟩
theorem mf_X4_expectedAfter : MF yX4_expectedAfter cX4_expectedAfter 2 (some .int) 2 := ⟨ub_mem 528 (by decide +kernel) rfl, ub_mem 67 (by decide +kernel) rfl, by decide +kernel⟩
theorem mf_X4_faultPlace : MF yX4_faultPlace cX4_faultPlace 3 (some .int) 0 := ⟨ub_mem 521 (by decide +kernel) rfl, ub_mem 67 (by decide +kernel) rfl, by decide +kernel⟩
theorem mf_X4_guestOfDeed : MF yX4_guestOfDeed cX4_guestOfDeed 2 (some .int) 1 := ⟨ub_mem 567 (by decide +kernel) rfl, ub_mem 67 (by decide +kernel) rfl, by decide +kernel⟩
theorem mf_X4_isGuestsDeed : MF yX4_isGuestsDeed cX4_isGuestsDeed 2 (some .boolean) 1 := ⟨ub_mem 558 (by decide +kernel) rfl, ub_mem 67 (by decide +kernel) rfl, by decide +kernel⟩
theorem mf_X4_letterOfDeed : MF yX4_letterOfDeed cX4_letterOfDeed 2 (some .int) 1 := ⟨ub_mem 562 (by decide +kernel) rfl, ub_mem 67 (by decide +kernel) rfl, by decide +kernel⟩
theorem mf_X4_placeOfLetter : MF yX4_placeOfLetter cX4_placeOfLetter 2 (some .int) 1 := ⟨ub_mem 554 (by decide +kernel) rfl, ub_mem 67 (by decide +kernel) rfl, by decide +kernel⟩
theorem mf_X4_placeOfNextDeed : MF yX4_placeOfNextDeed cX4_placeOfNextDeed 2 (some .int) 1 := ⟨ub_mem 575 (by decide +kernel) rfl, ub_mem 67 (by decide +kernel) rfl, by decide +kernel⟩
theorem mf_X5_copy : MF yX5_copy cX5_copy 2 none 1 := ⟨ub_mem 304 (by decide +kernel) rfl, ub_mem 61 (by decide +kernel) rfl, by decide +kernel⟩
theorem mf_X5_howManyCouldOpen : MF yX5_howManyCouldOpen cX5_howManyCouldOpen 4 (some .int) 1 := ⟨ub_mem 614 (by decide +kernel) rfl, ub_mem 61 (by decide +kernel) rfl, by decide +kernel⟩
theorem mf_X5_isAtDoor : MF yX5_isAtDoor cX5_isAtDoor 3 (some .boolean) 2 := ⟨ub_mem 469 (by decide +kernel) rfl, ub_mem 61 (by decide +kernel) rfl, by decide +kernel⟩
theorem mf_X5_isOpen : MF yX5_isOpen cX5_isOpen 2 (some .boolean) 1 := ⟨ub_mem 333 (by decide +kernel) rfl, ub_mem 61 (by decide +kernel) rfl, by decide +kernel⟩
theorem mf_X5_laysCord : MF yX5_laysCord cX5_laysCord 4 (some .int) 3 := ⟨ub_mem 418 (by decide +kernel) rfl, ub_mem 61 (by decide +kernel) rfl, by decide +kernel⟩
theorem mf_X5_opensAsGuest : MF yX5_opensAsGuest cX5_opensAsGuest 3 (some .int) 2 := ⟨ub_mem 461 (by decide +kernel) rfl, ub_mem 61 (by decide +kernel) rfl, by decide +kernel⟩
theorem mf_X5_opensUnless : MF yX5_opensUnless cX5_opensUnless 7 (some .int) 2 := ⟨ub_mem 349 (by decide +kernel) rfl, ub_mem 61 (by decide +kernel) rfl, by decide +kernel⟩
theorem mf_X5_reasonNotToOpen : MF yX5_reasonNotToOpen cX5_reasonNotToOpen 2 (some .int) 1 := ⟨ub_mem 329 (by decide +kernel) rfl, ub_mem 61 (by decide +kernel) rfl, by decide +kernel⟩
theorem mf_X5_reasonNotToOpenAsGuest : MF yX5_reasonNotToOpenAsGuest cX5_reasonNotToOpenAsGuest 3 (some .int) 2 := ⟨ub_mem 465 (by decide +kernel) rfl, ub_mem 61 (by decide +kernel) rfl, by decide +kernel⟩
theorem mf_X5_reasonNotToShut : MF yX5_reasonNotToShut cX5_reasonNotToShut 2 (some .int) 1 := ⟨ub_mem 397 (by decide +kernel) rfl, ub_mem 61 (by decide +kernel) rfl, by decide +kernel⟩
theorem mf_X5_reasonNotToUse : MF yX5_reasonNotToUse cX5_reasonNotToUse 3 (some .int) 2 := ⟨ub_mem 485 (by decide +kernel) rfl, ub_mem 61 (by decide +kernel) rfl, by decide +kernel⟩
theorem mf_X5_servantOpens : MF yX5_servantOpens cX5_servantOpens 2 (some .int) 1 := ⟨ub_mem 325 (by decide +kernel) rfl, ub_mem 61 (by decide +kernel) rfl, by decide +kernel⟩
theorem mf_X5_servantShuts : MF yX5_servantShuts cX5_servantShuts 2 (some .int) 1 := ⟨ub_mem 393 (by decide +kernel) rfl, ub_mem 61 (by decide +kernel) rfl, by decide +kernel⟩
theorem mf_X5_shutDoors : MF yX5_shutDoors cX5_shutDoors 1 (some .int) 0 := ⟨ub_mem 704 (by decide +kernel) rfl, ub_mem 61 (by decide +kernel) rfl, by decide +kernel⟩
theorem mf_X5_shutsAsGuest : MF yX5_shutsAsGuest cX5_shutsAsGuest 3 (some .int) 2 := ⟨ub_mem 481 (by decide +kernel) rfl, ub_mem 61 (by decide +kernel) rfl, by decide +kernel⟩
theorem mf_X5_shutsUnless : MF yX5_shutsUnless cX5_shutsUnless 3 (some .int) 2 := ⟨ub_mem 401 (by decide +kernel) rfl, ub_mem 61 (by decide +kernel) rfl, by decide +kernel⟩
theorem mf_X5_walksThrough : MF yX5_walksThrough cX5_walksThrough 4 (some .int) 2 := ⟨ub_mem 493 (by decide +kernel) rfl, ub_mem 61 (by decide +kernel) rfl, by decide +kernel⟩
theorem mf_X6_forget : MF yX6_forget cX6_forget 1 none 0 := ⟨ub_mem 538 (by decide +kernel) rfl, ub_mem 68 (by decide +kernel) rfl, by decide +kernel⟩
theorem mf_X6_happened : MF yX6_happened cX6_happened 1 (some .boolean) 0 := ⟨ub_mem 542 (by decide +kernel) rfl, ub_mem 68 (by decide +kernel) rfl, by decide +kernel⟩
theorem mf_X6_remember : MF yX6_remember cX6_remember 4 none 3 := ⟨ub_mem 571 (by decide +kernel) rfl, ub_mem 68 (by decide +kernel) rfl, by decide +kernel⟩
theorem mf_X7_fromHallBack : MF yX7_fromHallBack cX7_fromHallBack 8 (some .int) 4 := ⟨ub_mem 678 (by decide +kernel) rfl, ub_mem 69 (by decide +kernel) rfl, by decide +kernel⟩
theorem mf_X7_fromNowOn : MF yX7_fromNowOn cX7_fromNowOn 7 (some .int) 4 := ⟨ub_mem 651 (by decide +kernel) rfl, ub_mem 69 (by decide +kernel) rfl, by decide +kernel⟩
theorem mf_X7_goOnFrom : MF yX7_goOnFrom cX7_goOnFrom 10 none 3 := ⟨ub_mem 662 (by decide +kernel) rfl, ub_mem 69 (by decide +kernel) rfl, by decide +kernel⟩
theorem mf_X7_lessen : MF yX7_lessen cX7_lessen 3 (some .int) 2 := ⟨ub_mem 692 (by decide +kernel) rfl, ub_mem 69 (by decide +kernel) rfl, by decide +kernel⟩
theorem mf_X7_lessenAll : MF yX7_lessenAll cX7_lessenAll 10 (some .int) 3 := ⟨ub_mem 686 (by decide +kernel) rfl, ub_mem 69 (by decide +kernel) rfl, by decide +kernel⟩
theorem mf_X7_lineUpSets : MF yX7_lineUpSets cX7_lineUpSets 5 none 2 := ⟨ub_mem 682 (by decide +kernel) rfl, ub_mem 69 (by decide +kernel) rfl, by decide +kernel⟩
theorem mf_X7_reach : MF yX7_reach cX7_reach 3 none 2 := ⟨ub_mem 658 (by decide +kernel) rfl, ub_mem 69 (by decide +kernel) rfl, by decide +kernel⟩
theorem mf_X8_doorOrNotFound : MF yX8_doorOrNotFound cX8_doorOrNotFound 1 (some .int) 1 := ⟨ub_mem 586 (by decide +kernel) rfl, ub_mem 60 (by decide +kernel) rfl, by decide +kernel⟩
theorem mf_X8_has : MF yX8_has cX8_has 2 (some .boolean) 2 := ⟨ub_mem 336 (by decide +kernel) rfl, ub_mem 60 (by decide +kernel) rfl, by decide +kernel⟩
theorem mf_X8_isDoor : MF yX8_isDoor cX8_isDoor 1 (some .boolean) 1 := ⟨ub_mem 296 (by decide +kernel) rfl, ub_mem 60 (by decide +kernel) rfl, by decide +kernel⟩
theorem mf_X8_isGuest : MF yX8_isGuest cX8_isGuest 1 (some .boolean) 1 := ⟨ub_mem 446 (by decide +kernel) rfl, ub_mem 60 (by decide +kernel) rfl, by decide +kernel⟩
theorem mf_X8_isHall : MF yX8_isHall cX8_isHall 1 (some .boolean) 1 := ⟨ub_mem 429 (by decide +kernel) rfl, ub_mem 60 (by decide +kernel) rfl, by decide +kernel⟩
theorem mf_X8_isSetOfDoors : MF yX8_isSetOfDoors cX8_isSetOfDoors 1 (some .boolean) 1 := ⟨ub_mem 449 (by decide +kernel) rfl, ub_mem 60 (by decide +kernel) rfl, by decide +kernel⟩
theorem mf_X8_mostDoorByDoor : MF yX8_mostDoorByDoor cX8_mostDoorByDoor 5 (some .int) 3 := ⟨ub_mem 636 (by decide +kernel) rfl, ub_mem 60 (by decide +kernel) rfl, by decide +kernel⟩
theorem mf_X8_mostOfAllSets : MF yX8_mostOfAllSets cX8_mostOfAllSets 3 (some .int) 0 := ⟨ub_mem 627 (by decide +kernel) rfl, ub_mem 60 (by decide +kernel) rfl, by decide +kernel⟩
theorem mf_X8_runDeedAt : MF yX8_runDeedAt cX8_runDeedAt 5 (some .int) 1 := ⟨ub_mem 546 (by decide +kernel) rfl, ub_mem 60 (by decide +kernel) rfl, by decide +kernel⟩
theorem mf_X8_spot : MF yX8_spot cX8_spot 2 (some .int) 2 := ⟨ub_mem 647 (by decide +kernel) rfl, ub_mem 60 (by decide +kernel) rfl, by decide +kernel⟩
theorem mf_X8_without : MF yX8_without cX8_without 2 (some .int) 2 := ⟨ub_mem 374 (by decide +kernel) rfl, ub_mem 60 (by decide +kernel) rfl, by decide +kernel⟩
theorem mf_X9_across : MF yX9_across cX9_across 3 (some .int) 2 := ⟨ub_mem 934 (by decide +kernel) rfl, ub_mem 70 (by decide +kernel) rfl, by decide +kernel⟩
theorem mf_X9_canBe : MF yX9_canBe cX9_canBe 6 (some .boolean) 1 := ⟨ub_mem 1048 (by decide +kernel) rfl, ub_mem 70 (by decide +kernel) rfl, by decide +kernel⟩
theorem mf_X9_canOpen : MF yX9_canOpen cX9_canOpen 4 (some .int) 1 := ⟨ub_mem 1036 (by decide +kernel) rfl, ub_mem 70 (by decide +kernel) rfl, by decide +kernel⟩
theorem mf_X9_copyState : MF yX9_copyState cX9_copyState 5 none 4 := ⟨ub_mem 809 (by decide +kernel) rfl, ub_mem 70 (by decide +kernel) rfl, by decide +kernel⟩
theorem mf_X9_cords : MF yX9_cords cX9_cords 5 (some .int) 1 := ⟨ub_mem 1076 (by decide +kernel) rfl, ub_mem 70 (by decide +kernel) rfl, by decide +kernel⟩
theorem mf_X9_cordsTo : MF yX9_cordsTo cX9_cordsTo 5 (some .int) 2 := ⟨ub_mem 855 (by decide +kernel) rfl, ub_mem 70 (by decide +kernel) rfl, by decide +kernel⟩
theorem mf_X9_doDeed : MF yX9_doDeed cX9_doDeed 4 (some .int) 1 := ⟨ub_mem 1001 (by decide +kernel) rfl, ub_mem 70 (by decide +kernel) rfl, by decide +kernel⟩
theorem mf_X9_doorsOf : MF yX9_doorsOf cX9_doorsOf 4 (some .int) 1 := ⟨ub_mem 1017 (by decide +kernel) rfl, ub_mem 70 (by decide +kernel) rfl, by decide +kernel⟩
theorem mf_X9_goOn : MF yX9_goOn cX9_goOn 6 none 2 := ⟨ub_mem 1064 (by decide +kernel) rfl, ub_mem 70 (by decide +kernel) rfl, by decide +kernel⟩
theorem mf_X9_goesTo : MF yX9_goesTo cX9_goesTo 3 (some .boolean) 2 := ⟨ub_mem 859 (by decide +kernel) rfl, ub_mem 70 (by decide +kernel) rfl, by decide +kernel⟩
theorem mf_X9_greaterHall : MF yX9_greaterHall cX9_greaterHall 2 (some .int) 1 := ⟨ub_mem 953 (by decide +kernel) rfl, ub_mem 70 (by decide +kernel) rfl, by decide +kernel⟩
theorem mf_X9_guestOpensNow : MF yX9_guestOpensNow cX9_guestOpensNow 3 (some .int) 2 := ⟨ub_mem 902 (by decide +kernel) rfl, ub_mem 70 (by decide +kernel) rfl, by decide +kernel⟩
theorem mf_X9_guestShutsNow : MF yX9_guestShutsNow cX9_guestShutsNow 3 (some .int) 2 := ⟨ub_mem 922 (by decide +kernel) rfl, ub_mem 70 (by decide +kernel) rfl, by decide +kernel⟩
theorem mf_X9_guestsIn : MF yX9_guestsIn cX9_guestsIn 4 (some .int) 1 := ⟨ub_mem 1021 (by decide +kernel) rfl, ub_mem 70 (by decide +kernel) rfl, by decide +kernel⟩
theorem mf_X9_hangs : MF yX9_hangs cX9_hangs 6 (some .int) 1 := ⟨ub_mem 1025 (by decide +kernel) rfl, ub_mem 70 (by decide +kernel) rfl, by decide +kernel⟩
theorem mf_X9_hasKey : MF yX9_hasKey cX9_hasKey 3 (some .boolean) 2 := ⟨ub_mem 914 (by decide +kernel) rfl, ub_mem 70 (by decide +kernel) rfl, by decide +kernel⟩
theorem mf_X9_held : MF yX9_held cX9_held 3 (some .int) 0 := ⟨ub_mem 1080 (by decide +kernel) rfl, ub_mem 70 (by decide +kernel) rfl, by decide +kernel⟩
theorem mf_X9_in : MF yX9_in cX9_in 3 (some .boolean) 3 := ⟨ub_mem 839 (by decide +kernel) rfl, ub_mem 70 (by decide +kernel) rfl, by decide +kernel⟩
theorem mf_X9_isAt : MF yX9_isAt cX9_isAt 3 (some .boolean) 2 := ⟨ub_mem 906 (by decide +kernel) rfl, ub_mem 70 (by decide +kernel) rfl, by decide +kernel⟩
theorem mf_X9_isDoor : MF yX9_isDoor cX9_isDoor 1 (some .boolean) 1 := ⟨ub_mem 836 (by decide +kernel) rfl, ub_mem 70 (by decide +kernel) rfl, by decide +kernel⟩
theorem mf_X9_isGuest : MF yX9_isGuest cX9_isGuest 1 (some .boolean) 1 := ⟨ub_mem 898 (by decide +kernel) rfl, ub_mem 70 (by decide +kernel) rfl, by decide +kernel⟩
theorem mf_X9_isHall : MF yX9_isHall cX9_isHall 1 (some .boolean) 1 := ⟨ub_mem 945 (by decide +kernel) rfl, ub_mem 70 (by decide +kernel) rfl, by decide +kernel⟩
theorem mf_X9_isOpen : MF yX9_isOpen cX9_isOpen 2 (some .boolean) 1 := ⟨ub_mem 851 (by decide +kernel) rfl, ub_mem 70 (by decide +kernel) rfl, by decide +kernel⟩
theorem mf_X9_joins : MF yX9_joins cX9_joins 3 (some .boolean) 2 := ⟨ub_mem 879 (by decide +kernel) rfl, ub_mem 70 (by decide +kernel) rfl, by decide +kernel⟩
theorem mf_X9_lay : MF yX9_lay cX9_lay 4 none 3 := ⟨ub_mem 750 (by decide +kernel) rfl, ub_mem 70 (by decide +kernel) rfl, by decide +kernel⟩
theorem mf_X9_laySet : MF yX9_laySet cX9_laySet 3 none 1 := ⟨ub_mem 1068 (by decide +kernel) rfl, ub_mem 70 (by decide +kernel) rfl, by decide +kernel⟩
theorem mf_X9_lesserHall : MF yX9_lesserHall cX9_lesserHall 2 (some .int) 1 := ⟨ub_mem 949 (by decide +kernel) rfl, ub_mem 70 (by decide +kernel) rfl, by decide +kernel⟩
theorem mf_X9_lowestIn : MF yX9_lowestIn cX9_lowestIn 5 (some .int) 2 := ⟨ub_mem 883 (by decide +kernel) rfl, ub_mem 70 (by decide +kernel) rfl, by decide +kernel⟩
theorem mf_X9_of : MF yX9_of cX9_of 3 (some .int) 2 := ⟨ub_mem 821 (by decide +kernel) rfl, ub_mem 70 (by decide +kernel) rfl, by decide +kernel⟩
theorem mf_X9_ofGuest : MF yX9_ofGuest cX9_ofGuest 3 (some .int) 2 := ⟨ub_mem 910 (by decide +kernel) rfl, ub_mem 70 (by decide +kernel) rfl, by decide +kernel⟩
theorem mf_X9_openIn : MF yX9_openIn cX9_openIn 4 (some .int) 1 := ⟨ub_mem 875 (by decide +kernel) rfl, ub_mem 70 (by decide +kernel) rfl, by decide +kernel⟩
theorem mf_X9_openNow : MF yX9_openNow cX9_openNow 3 (some .int) 1 := ⟨ub_mem 843 (by decide +kernel) rfl, ub_mem 70 (by decide +kernel) rfl, by decide +kernel⟩
theorem mf_X9_openSet : MF yX9_openSet cX9_openSet 3 (some .int) 0 := ⟨ub_mem 817 (by decide +kernel) rfl, ub_mem 70 (by decide +kernel) rfl, by decide +kernel⟩
theorem mf_X9_opens : MF yX9_opens cX9_opens 4 (some .int) 1 := ⟨ub_mem 867 (by decide +kernel) rfl, ub_mem 70 (by decide +kernel) rfl, by decide +kernel⟩
theorem mf_X9_pairsOfDoors : MF yX9_pairsOfDoors cX9_pairsOfDoors 4 (some .int) 0 := ⟨ub_mem 1088 (by decide +kernel) rfl, ub_mem 70 (by decide +kernel) rfl, by decide +kernel⟩
theorem mf_X9_pairsOfHalls : MF yX9_pairsOfHalls cX9_pairsOfHalls 3 (some .int) 0 := ⟨ub_mem 1084 (by decide +kernel) rfl, ub_mem 70 (by decide +kernel) rfl, by decide +kernel⟩
theorem mf_X9_reach : MF yX9_reach cX9_reach 3 none 2 := ⟨ub_mem 1060 (by decide +kernel) rfl, ub_mem 70 (by decide +kernel) rfl, by decide +kernel⟩
theorem mf_X9_readDeed : MF yX9_readDeed cX9_readDeed 5 (some .boolean) 0 := ⟨ub_mem 981 (by decide +kernel) rfl, ub_mem 70 (by decide +kernel) rfl, by decide +kernel⟩
theorem mf_X9_readPad : MF yX9_readPad cX9_readPad 2 (some .boolean) 0 := ⟨ub_mem 977 (by decide +kernel) rfl, ub_mem 70 (by decide +kernel) rfl, by decide +kernel⟩
theorem mf_X9_reason : MF yX9_reason cX9_reason 2 (some .int) 1 := ⟨ub_mem 847 (by decide +kernel) rfl, ub_mem 70 (by decide +kernel) rfl, by decide +kernel⟩
theorem mf_X9_record : MF yX9_record cX9_record 2 none 0 := ⟨ub_mem 829 (by decide +kernel) rfl, ub_mem 70 (by decide +kernel) rfl, by decide +kernel⟩
theorem mf_X9_refuse : MF yX9_refuse cX9_refuse 2 (some .int) 1 := ⟨ub_mem 863 (by decide +kernel) rfl, ub_mem 70 (by decide +kernel) rfl, by decide +kernel⟩
theorem mf_X9_sees : MF yX9_sees cX9_sees 3 (some .boolean) 2 := ⟨ub_mem 989 (by decide +kernel) rfl, ub_mem 70 (by decide +kernel) rfl, by decide +kernel⟩
theorem mf_X9_shutNow : MF yX9_shutNow cX9_shutNow 2 (some .int) 1 := ⟨ub_mem 891 (by decide +kernel) rfl, ub_mem 70 (by decide +kernel) rfl, by decide +kernel⟩
theorem mf_X9_shuts : MF yX9_shuts cX9_shuts 3 none 2 := ⟨ub_mem 871 (by decide +kernel) rfl, ub_mem 70 (by decide +kernel) rfl, by decide +kernel⟩
theorem mf_X9_size : MF yX9_size cX9_size 3 (some .int) 1 := ⟨ub_mem 1028 (by decide +kernel) rfl, ub_mem 70 (by decide +kernel) rfl, by decide +kernel⟩
theorem mf_X9_takes : MF yX9_takes cX9_takes 3 (some .boolean) 1 := ⟨ub_mem 985 (by decide +kernel) rfl, ub_mem 70 (by decide +kernel) rfl, by decide +kernel⟩
theorem mf_X9_takesOne : MF yX9_takesOne cX9_takesOne 3 (some .int) 2 := ⟨ub_mem 993 (by decide +kernel) rfl, ub_mem 70 (by decide +kernel) rfl, by decide +kernel⟩
theorem mf_X9_walkNow : MF yX9_walkNow cX9_walkNow 4 (some .int) 2 := ⟨ub_mem 930 (by decide +kernel) rfl, ub_mem 70 (by decide +kernel) rfl, by decide +kernel⟩
theorem pf_X0_2 : PFc 0 2 false .int := ⟨RX0, TX0, 7, tyX0, rfl, tyX0_ok, nmX0, rfl, by decide +kernel, rfl⟩
theorem pf_X0_3 : PFc 0 3 false .int := ⟨RX0, TX0, 7, tyX0, rfl, tyX0_ok, nmX0, rfl, by decide +kernel, rfl⟩
theorem pf_X0_4 : PFc 0 4 false .int := ⟨RX0, TX0, 7, tyX0, rfl, tyX0_ok, nmX0, rfl, by decide +kernel, rfl⟩
theorem pf_X0_5 : PFc 0 5 false .int := ⟨RX0, TX0, 7, tyX0, rfl, tyX0_ok, nmX0, rfl, by decide +kernel, rfl⟩
theorem pf_X0_6 : PFc 0 6 false .int := ⟨RX0, TX0, 7, tyX0, rfl, tyX0_ok, nmX0, rfl, by decide +kernel, rfl⟩
theorem pf_X2_2 : PFc 2 2 false .int := ⟨RX2, TX2, 3, tyX2, rfl, tyX2_ok, nmX2, rfl, by decide +kernel, rfl⟩
theorem pf_X3_5 : PFc 3 5 false .int := ⟨RX3, TX3, 6, tyX3, rfl, tyX3_ok, nmX3, rfl, by decide +kernel, rfl⟩
theorem pf_X4_1 : PFc 4 1 false .int := ⟨RX4, TX4, 2, tyX4, rfl, tyX4_ok, nmX4, rfl, by decide +kernel, rfl⟩
theorem pf_X5_3 : PFc 5 3 false .int := ⟨RX5, TX5, 4, tyX5, rfl, tyX5_ok, nmX5, rfl, by decide +kernel, rfl⟩
theorem pf_X6_0 : PFc 6 0 false .int := ⟨RX6, TX6, 3, tyX6, rfl, tyX6_ok, nmX6, rfl, by decide +kernel, rfl⟩
theorem pf_X6_1 : PFc 6 1 false .int := ⟨RX6, TX6, 3, tyX6, rfl, tyX6_ok, nmX6, rfl, by decide +kernel, rfl⟩
theorem pf_X6_2 : PFc 6 2 false .int := ⟨RX6, TX6, 3, tyX6, rfl, tyX6_ok, nmX6, rfl, by decide +kernel, rfl⟩
theorem pf_X7_2 : PFc 7 2 false .int := ⟨RX7, TX7, 3, tyX7, rfl, tyX7_ok, nmX7, rfl, by decide +kernel, rfl⟩
theorem pf_X8_3 : PFc 8 3 false .boolean := ⟨RX8, TX8, 7, tyX8, rfl, tyX8_ok, nmX8, rfl, by decide +kernel, rfl⟩
theorem pf_X9_10 : PFc 9 10 false .int := ⟨RX9, TX9, 17, tyX9, rfl, tyX9_ok, nmX9, rfl, by decide +kernel, rfl⟩
theorem pf_X9_11 : PFc 9 11 false .int := ⟨RX9, TX9, 17, tyX9, rfl, tyX9_ok, nmX9, rfl, by decide +kernel, rfl⟩
theorem pf_X9_13 : PFc 9 13 false .int := ⟨RX9, TX9, 17, tyX9, rfl, tyX9_ok, nmX9, rfl, by decide +kernel, rfl⟩
theorem pf_X9_16 : PFc 9 16 false .int := ⟨RX9, TX9, 17, tyX9, rfl, tyX9_ok, nmX9, rfl, by decide +kernel, rfl⟩
theorem pf_X9_3 : PFc 9 3 false .int := ⟨RX9, TX9, 17, tyX9, rfl, tyX9_ok, nmX9, rfl, by decide +kernel, rfl⟩
theorem pf_X9_5 : PFc 9 5 false .boolean := ⟨RX9, TX9, 17, tyX9, rfl, tyX9_ok, nmX9, rfl, by decide +kernel, rfl⟩
theorem pf_X9_7 : PFc 9 7 false .int := ⟨RX9, TX9, 17, tyX9, rfl, tyX9_ok, nmX9, rfl, by decide +kernel, rfl⟩
theorem pf_X9_8 : PFc 9 8 false .int := ⟨RX9, TX9, 17, tyX9, rfl, tyX9_ok, nmX9, rfl, by decide +kernel, rfl⟩
theorem pf_X9_9 : PFc 9 9 false .int := ⟨RX9, TX9, 17, tyX9, rfl, tyX9_ok, nmX9, rfl, by decide +kernel, rfl⟩
end
section
def wp_X0_copy (v0 : AcV) (v1 : AcV) (Q : AcV → Prop) : Prop := ∀ g1 : Nat → Int32, g1 = va_cpy v1.1 v0.1 (0 : Int32).toNatClampNeg (0 : Int32).toNatClampNeg (10 : Int32).toNatClampNeg → ∀ g2 : Nat → Int32, g2 = va_cpy v1.2.1 v0.2.1 (0 : Int32).toNatClampNeg (0 : Int32).toNatClampNeg (10 : Int32).toNatClampNeg → ∀ z3 : Int32, z3 = v1.2.2.1 → ∀ z4 : Int32, z4 = v1.2.2.2.1 → ∀ z5 : Int32, z5 = v1.2.2.2.2.1 → ∀ z6 : Int32, z6 = v1.2.2.2.2.2.1 → ∀ z7 : Int32, z7 = v1.2.2.2.2.2.2 → Q (g1, g2, z3, z4, z5, z6, z7)
def wp_X0_noteOpened (v0 : AcV) (i0 : Int32) (Q : AcV → Prop) : Prop := vp_in i0 10 ∧ (vp_in i0 10 ∧ ∀ g3 : Nat → Int32, g3 = upd v0.1 i0.toNatClampNeg ((v0.1 i0.toNatClampNeg) + (1 : Int32)) → ∀ z4 : Int32, z4 = v0.2.2.1 + (1 : Int32) → Q (g3, v0.2.1, z4, v0.2.2.2.1, v0.2.2.2.2.1, v0.2.2.2.2.2.1, v0.2.2.2.2.2.2))
def wp_X0_noteShutByHand (v0 : AcV) (i0 : Int32) (Q : AcV → Prop) : Prop := vp_in i0 10 ∧ (vp_in i0 10 ∧ ∀ g3 : Nat → Int32, g3 = upd v0.2.1 i0.toNatClampNeg ((v0.2.1 i0.toNatClampNeg) + (1 : Int32)) → ∀ z4 : Int32, z4 = v0.2.2.2.1 + (1 : Int32) → Q (v0.1, g3, v0.2.2.1, z4, v0.2.2.2.2.1, v0.2.2.2.2.2.1, v0.2.2.2.2.2.2))
def wp_J6_bitCount_0f7a4 (i0 : Int32) (Q : Int32 → Prop) : Prop := ∀ z1 : Int32, z1 = i0 - (((i0.toUInt32 >>> ((1 : Int32).toUInt32 &&& Int32.toUInt32 31)).toInt32) &&& (1431655765 : Int32)) → ∀ z2 : Int32, z2 = (z1 &&& (858993459 : Int32)) + (((z1.toUInt32 >>> ((2 : Int32).toUInt32 &&& Int32.toUInt32 31)).toInt32) &&& (858993459 : Int32)) → ∀ z3 : Int32, z3 = (z2 + ((z2.toUInt32 >>> ((4 : Int32).toUInt32 &&& Int32.toUInt32 31)).toInt32)) &&& (252645135 : Int32) → ∀ z4 : Int32, z4 = z3 + ((z3.toUInt32 >>> ((8 : Int32).toUInt32 &&& Int32.toUInt32 31)).toInt32) → ∀ z5 : Int32, z5 = z4 + ((z4.toUInt32 >>> ((16 : Int32).toUInt32 &&& Int32.toUInt32 31)).toInt32) → Q (z5 &&& (63 : Int32))
def wp_X8_has (i0 : Int32) (i1 : Int32) (Q : Int32 → Prop) : Prop := ((((i0 >>> (i1 &&& 31)) &&& (1 : Int32)) = 0) → Q (0 : Int32)) ∧ ((¬ ((i0 >>> (i1 &&& 31)) &&& (1 : Int32)) = 0) → Q (1 : Int32))
def wp_X0_noteShutByOpening_L28 (x1 : Int32) (x2 : Int32) (Q : AcV → Prop) : Nat → Int32 → AcV → Prop
  | 0, _, _ => False
  | n + 1, x3, w0 => (((10 : Int32) ≤ x3) → Q w0) ∧ ((¬ (10 : Int32) ≤ x3) → wp_X8_has (x1 ||| x2) x3 (fun r8 => ((r8 = 0) → ∀ z11 : Int32, z11 = x3 + (1 : Int32) → (wp_X0_noteShutByOpening_L28 x1 x2 Q n) z11 w0) ∧ ((¬ r8 = 0) → vp_in x3 10 ∧ (vp_in x3 10 ∧ ∀ g14 : Nat → Int32, g14 = upd w0.2.1 x3.toNatClampNeg ((w0.2.1 x3.toNatClampNeg) + (1 : Int32)) → ∀ z15 : Int32, z15 = x3 + (1 : Int32) → (wp_X0_noteShutByOpening_L28 x1 x2 Q n) z15 (w0.1, g14, w0.2.2.1, w0.2.2.2.1, w0.2.2.2.2.1, w0.2.2.2.2.2.1, w0.2.2.2.2.2.2)))))
def wp_X0_noteShutByOpening (v0 : AcV) (i0 : Int32) (i1 : Int32) (Q : AcV → Prop) : Prop := wp_J6_bitCount_0f7a4 i0 (fun r1 => ∀ z3 : Int32, z3 = v0.2.2.2.2.1 + r1 → wp_J6_bitCount_0f7a4 i1 (fun r4 => ∀ z6 : Int32, z6 = v0.2.2.2.2.2.1 + r4 → ∃ k : Nat, wp_X0_noteShutByOpening_L28 i0 i1 Q k (0 : Int32) (v0.1, v0.2.1, v0.2.2.1, v0.2.2.2.1, z3, z6, v0.2.2.2.2.2.2)))
def wp_X0_noteRefused (v0 : AcV) (i0 : Int32) (Q : Int32 → AcV → Prop) : Prop := ∀ z1 : Int32, z1 = v0.2.2.2.2.2.2 + (1 : Int32) → Q i0 (v0.1, v0.2.1, v0.2.2.1, v0.2.2.2.1, v0.2.2.2.2.1, v0.2.2.2.2.2.1, z1)
def wp_X1_copy (v0 : GuV) (v1 : GuV) (Q : GuV → Prop) : Prop := ∀ g1 : Nat → Int32, g1 = va_cpy v1.1 v0.1 (0 : Int32).toNatClampNeg (0 : Int32).toNatClampNeg (3 : Int32).toNatClampNeg → ∀ g2 : Nat → Int32, g2 = va_cpy v1.2.1 v0.2.1 (0 : Int32).toNatClampNeg (0 : Int32).toNatClampNeg (3 : Int32).toNatClampNeg → ∀ g3 : Nat → Int32, g3 = va_cpy v1.2.2 v0.2.2 (0 : Int32).toNatClampNeg (0 : Int32).toNatClampNeg (3 : Int32).toNatClampNeg → Q (g1, g2, g3)
def wp_X1_howManyIn_L4 (v0 : GuV) (x1 : Int32) (Q : Int32 → Prop) : Nat → Int32 → Int32 → Prop
  | 0, _, _ => False
  | n + 1, x2, x3 => (((3 : Int32) ≤ x3) → Q x2) ∧ ((¬ (3 : Int32) ≤ x3) → vp_in x3 3 ∧ (((¬ (v0.1 x3.toNatClampNeg) = x1) → ∀ z4 : Int32, z4 = x3 + (1 : Int32) → (wp_X1_howManyIn_L4 v0 x1 Q n) x2 z4) ∧ (((v0.1 x3.toNatClampNeg) = x1) → ∀ z5 : Int32, z5 = x2 + (1 : Int32) → ∀ z6 : Int32, z6 = x3 + (1 : Int32) → (wp_X1_howManyIn_L4 v0 x1 Q n) z5 z6)))
def wp_X1_howManyIn (v0 : GuV) (i0 : Int32) (Q : Int32 → Prop) : Prop := ∃ k : Nat, wp_X1_howManyIn_L4 v0 i0 Q k (0 : Int32) (0 : Int32)
def wp_X3_hang (v0 : LoomV) (i0 : Int32) (i1 : Int32) (i2 : Int32) (Q : LoomV → Prop) : Prop := vp_in i0 10 ∧ (vp_in (v0.2.2.1 i0.toNatClampNeg) 6 ∧ (vp_in (v0.2.2.1 i0.toNatClampNeg) 6 ∧ ∀ g4 : Nat → Int32, g4 = upd v0.2.2.2.2.1 (v0.2.2.1 i0.toNatClampNeg).toNatClampNeg ((v0.2.2.2.2.1 (v0.2.2.1 i0.toNatClampNeg).toNatClampNeg) &&& (((1 : Int32) <<< (i0 &&& 31)) ^^^ (-1 : Int32))) → vp_in i0 10 ∧ (vp_in (v0.2.2.2.1 i0.toNatClampNeg) 6 ∧ (vp_in (v0.2.2.2.1 i0.toNatClampNeg) 6 ∧ ∀ g8 : Nat → Int32, g8 = upd g4 (v0.2.2.2.1 i0.toNatClampNeg).toNatClampNeg ((g4 (v0.2.2.2.1 i0.toNatClampNeg).toNatClampNeg) &&& (((1 : Int32) <<< (i0 &&& 31)) ^^^ (-1 : Int32))) → vp_in i0 10 ∧ ∀ g10 : Nat → Int32, g10 = upd v0.2.2.1 i0.toNatClampNeg (if i2 < i1 then i2 else i1) → vp_in i0 10 ∧ ∀ g12 : Nat → Int32, g12 = upd v0.2.2.2.1 i0.toNatClampNeg (if i1 < i2 then i2 else i1) → vp_in i1 6 ∧ (vp_in i1 6 ∧ ∀ g15 : Nat → Int32, g15 = upd g8 i1.toNatClampNeg ((g8 i1.toNatClampNeg) ||| ((1 : Int32) <<< (i0 &&& 31))) → vp_in i2 6 ∧ (vp_in i2 6 ∧ ∀ g18 : Nat → Int32, g18 = upd g15 i2.toNatClampNeg ((g15 i2.toNatClampNeg) ||| ((1 : Int32) <<< (i0 &&& 31))) → Q (v0.1, v0.2.1, g10, g12, g18, v0.2.2.2.2.2)))))))
def wp_X3_copy (v0 : LoomV) (v1 : LoomV) (Q : LoomV → Prop) : Prop := ∀ g1 : Nat → Int32, g1 = va_cpy v1.1 v0.1 (0 : Int32).toNatClampNeg (0 : Int32).toNatClampNeg (10 : Int32).toNatClampNeg → ∀ g2 : Nat → Int32, g2 = va_cpy v1.2.1 v0.2.1 (0 : Int32).toNatClampNeg (0 : Int32).toNatClampNeg (10 : Int32).toNatClampNeg → ∀ g3 : Nat → Int32, g3 = va_cpy v1.2.2.1 v0.2.2.1 (0 : Int32).toNatClampNeg (0 : Int32).toNatClampNeg (10 : Int32).toNatClampNeg → ∀ g4 : Nat → Int32, g4 = va_cpy v1.2.2.2.1 v0.2.2.2.1 (0 : Int32).toNatClampNeg (0 : Int32).toNatClampNeg (10 : Int32).toNatClampNeg → ∀ g5 : Nat → Int32, g5 = va_cpy v1.2.2.2.2.1 v0.2.2.2.2.1 (0 : Int32).toNatClampNeg (0 : Int32).toNatClampNeg (6 : Int32).toNatClampNeg → ∀ z6 : Int32, z6 = v1.2.2.2.2.2 → Q (g1, g2, g3, g4, g5, z6)
def wp_X5_copy (v0 : StV) (v1 : StV) (Q : StV → Prop) : Prop := wp_X3_copy v0.1 v1.1 (fun u2 => wp_X1_copy v0.2.1 v1.2.1 (fun u4 => wp_X0_copy v0.2.2.1 v1.2.2.1 (fun u6 => ∀ z7 : Int32, z7 = v1.2.2.2 → Q (u2, u4, u6, z7))))
def wp_X3_lesserHall (v0 : LoomV) (i0 : Int32) (Q : Int32 → Prop) : Prop := vp_in i0 10 ∧ (Q (v0.2.2.1 i0.toNatClampNeg))
def wp_X3_greaterHall (v0 : LoomV) (i0 : Int32) (Q : Int32 → Prop) : Prop := vp_in i0 10 ∧ (Q (v0.2.2.2.1 i0.toNatClampNeg))
def wp_X3_otherHall (v0 : LoomV) (i0 : Int32) (i1 : Int32) (Q : Int32 → Prop) : Prop := vp_in i0 10 ∧ (((¬ (v0.2.2.1 i0.toNatClampNeg) = i1) → vp_in i0 10 ∧ (Q (v0.2.2.1 i0.toNatClampNeg))) ∧ (((v0.2.2.1 i0.toNatClampNeg) = i1) → vp_in i0 10 ∧ (Q (v0.2.2.2.1 i0.toNatClampNeg))))
def wp_X3_doorsOf (v0 : LoomV) (i0 : Int32) (Q : Int32 → Prop) : Prop := vp_in i0 6 ∧ (Q (v0.2.2.2.2.1 i0.toNatClampNeg))
def wp_X3_cordOf (v0 : LoomV) (i0 : Int32) (i1 : Int32) (Q : Int32 → Prop) : Prop := ((i1 = 0) → vp_in i0 10 ∧ (Q (v0.1 i0.toNatClampNeg))) ∧ ((¬ i1 = 0) → vp_in i0 10 ∧ (Q (v0.2.1 i0.toNatClampNeg)))
def wp_X3_layCord (v0 : LoomV) (i0 : Int32) (i1 : Int32) (i2 : Int32) (Q : LoomV → Prop) : Prop := ((i1 = 0) → vp_in i0 10 ∧ ∀ g3 : Nat → Int32, g3 = upd v0.1 i0.toNatClampNeg i2 → Q (g3, v0.2.1, v0.2.2.1, v0.2.2.2.1, v0.2.2.2.2.1, v0.2.2.2.2.2)) ∧ ((¬ i1 = 0) → vp_in i0 10 ∧ ∀ g5 : Nat → Int32, g5 = upd v0.2.1 i0.toNatClampNeg i2 → Q (v0.1, g5, v0.2.2.1, v0.2.2.2.1, v0.2.2.2.2.1, v0.2.2.2.2.2))
def wp_X3_targetsOf (v0 : LoomV) (i0 : Int32) (Q : Int32 → Prop) : Prop := vp_in i0 10 ∧ (vp_in i0 10 ∧ (Q ((((1 : Int32) <<< ((v0.1 i0.toNatClampNeg) &&& 31)) ||| ((1 : Int32) <<< ((v0.2.1 i0.toNatClampNeg) &&& 31))) &&& (1023 : Int32))))
def wp_X3_heldBy_L4 (v0 : LoomV) (x1 : Int32) (Q : Int32 → Prop) : Nat → Int32 → Int32 → Prop
  | 0, _, _ => False
  | n + 1, x2, x3 => (((10 : Int32) ≤ x3) → Q x2) ∧ ((¬ (10 : Int32) ≤ x3) → wp_X8_has x1 x3 (fun r2 => ((r2 = 0) → ∀ z5 : Int32, z5 = x3 + (1 : Int32) → (wp_X3_heldBy_L4 v0 x1 Q n) x2 z5) ∧ ((¬ r2 = 0) → wp_X3_targetsOf v0 x3 (fun r6 => ∀ z8 : Int32, z8 = x2 ||| r6 → ∀ z9 : Int32, z9 = x3 + (1 : Int32) → (wp_X3_heldBy_L4 v0 x1 Q n) z8 z9))))
def wp_X3_heldBy (v0 : LoomV) (i0 : Int32) (Q : Int32 → Prop) : Prop := ∃ k : Nat, wp_X3_heldBy_L4 v0 i0 Q k (0 : Int32) (0 : Int32)
def wp_X3_cordsOf_L4 (v0 : LoomV) (x1 : Int32) (Q : Int32 → Prop) : Nat → Int32 → Int32 → Prop
  | 0, _, _ => False
  | n + 1, x2, x3 => (((10 : Int32) ≤ x3) → Q x2) ∧ ((¬ (10 : Int32) ≤ x3) → wp_X8_has x1 x3 (fun r2 => ((r2 = 0) → ∀ z5 : Int32, z5 = x3 + (1 : Int32) → (wp_X3_cordsOf_L4 v0 x1 Q n) x2 z5) ∧ ((¬ r2 = 0) → wp_X3_targetsOf v0 x3 (fun r6 => wp_J6_bitCount_0f7a4 r6 (fun r8 => ∀ z10 : Int32, z10 = x2 + r8 → ∀ z11 : Int32, z11 = x3 + (1 : Int32) → (wp_X3_cordsOf_L4 v0 x1 Q n) z10 z11)))))
def wp_X3_cordsOf (v0 : LoomV) (i0 : Int32) (Q : Int32 → Prop) : Prop := ∃ k : Nat, wp_X3_cordsOf_L4 v0 i0 Q k (0 : Int32) (0 : Int32)
def wp_X3_cordsTo_L5 (v0 : LoomV) (x1 : Int32) (x2 : Int32) (Q : Int32 → Prop) : Nat → Int32 → Int32 → Prop
  | 0, _, _ => False
  | n + 1, x3, x4 => (((10 : Int32) ≤ x4) → Q x3) ∧ ((¬ (10 : Int32) ≤ x4) → wp_X8_has x2 x4 (fun r2 => ((r2 = 0) → ∀ z5 : Int32, z5 = x4 + (1 : Int32) → (wp_X3_cordsTo_L5 v0 x1 x2 Q n) x3 z5) ∧ ((¬ r2 = 0) → wp_X3_targetsOf v0 x4 (fun r6 => wp_X8_has r6 x1 (fun r8 => ((r8 = 0) → ∀ z11 : Int32, z11 = x4 + (1 : Int32) → (wp_X3_cordsTo_L5 v0 x1 x2 Q n) x3 z11) ∧ ((¬ r8 = 0) → ∀ z12 : Int32, z12 = x3 + (1 : Int32) → ∀ z13 : Int32, z13 = x4 + (1 : Int32) → (wp_X3_cordsTo_L5 v0 x1 x2 Q n) z12 z13))))))
def wp_X3_cordsTo (v0 : LoomV) (i0 : Int32) (i1 : Int32) (Q : Int32 → Prop) : Prop := ∃ k : Nat, wp_X3_cordsTo_L5 v0 i0 i1 Q k (0 : Int32) (0 : Int32)
def wp_X3_pairsOfDoors_L14 (v0 : LoomV) (x2 : Int32) (Q : Int32 → Prop) (K4 : Int32 → Int32 → Prop) : Nat → Int32 → Int32 → Prop
  | 0, _, _ => False
  | n + 1, x1, x3 => (((10 : Int32) ≤ x3) → ∀ z4 : Int32, z4 = x2 + (1 : Int32) → K4 x1 z4) ∧ ((¬ (10 : Int32) ≤ x3) → wp_X3_targetsOf v0 x2 (fun r5 => wp_X8_has r5 x3 (fun r7 => ((r7 = 0) → ∀ z10 : Int32, z10 = x3 + (1 : Int32) → (wp_X3_pairsOfDoors_L14 v0 x2 Q K4 n) x1 z10) ∧ ((¬ r7 = 0) → wp_X3_targetsOf v0 x3 (fun r11 => wp_X8_has r11 x2 (fun r13 => ((r13 = 0) → ∀ z16 : Int32, z16 = x3 + (1 : Int32) → (wp_X3_pairsOfDoors_L14 v0 x2 Q K4 n) x1 z16) ∧ ((¬ r13 = 0) → ∀ z17 : Int32, z17 = x1 + (1 : Int32) → ∀ z18 : Int32, z18 = x3 + (1 : Int32) → (wp_X3_pairsOfDoors_L14 v0 x2 Q K4 n) z17 z18)))))))
def wp_X3_pairsOfDoors_L4 (v0 : LoomV) (Q : Int32 → Prop) : Nat → Int32 → Int32 → Prop
  | 0, _, _ => False
  | n + 1, x1, x2 => (((10 : Int32) ≤ x2) → Q x1) ∧ ((¬ (10 : Int32) ≤ x2) → ∀ z2 : Int32, z2 = x2 + (1 : Int32) → ∃ k : Nat, wp_X3_pairsOfDoors_L14 v0 x2 Q (wp_X3_pairsOfDoors_L4 v0 Q n) k x1 z2)
def wp_X3_pairsOfDoors (v0 : LoomV) (Q : Int32 → Prop) : Prop := ∃ k : Nat, wp_X3_pairsOfDoors_L4 v0 Q k (0 : Int32) (0 : Int32)
def wp_X3_hasTooMany (v0 : LoomV) (i0 : Int32) (i1 : Int32) (Q : Int32 → Prop) : Prop := vp_in i0 6 ∧ (wp_J6_bitCount_0f7a4 ((v0.2.2.2.2.1 i0.toNatClampNeg) &&& i1) (fun r2 => ((r2 ≤ v0.2.2.2.2.2) → Q (0 : Int32)) ∧ ((¬ r2 ≤ v0.2.2.2.2.2) → Q (1 : Int32))))
def wp_X3_canBeOpen_L14 (v0 : LoomV) (x1 : Int32) (Q : Int32 → Prop) : Nat → Int32 → Prop
  | 0, _ => False
  | n + 1, x2 => (((6 : Int32) ≤ x2) → Q (1 : Int32)) ∧ ((¬ (6 : Int32) ≤ x2) → wp_X3_hasTooMany v0 x2 x1 (fun r5 => ((r5 = 0) → ∀ z8 : Int32, z8 = x2 + (1 : Int32) → (wp_X3_canBeOpen_L14 v0 x1 Q n) z8) ∧ ((¬ r5 = 0) → Q (0 : Int32))))
def wp_X3_canBeOpen (v0 : LoomV) (i0 : Int32) (Q : Int32 → Prop) : Prop := wp_X3_heldBy v0 i0 (fun r1 => (((r1 &&& i0) = 0) → ∃ k : Nat, wp_X3_canBeOpen_L14 v0 i0 Q k (0 : Int32)) ∧ ((¬ (r1 &&& i0) = 0) → Q (0 : Int32)))
def wp_X3_afterCords (v0 : LoomV) (i0 : Int32) (i1 : Int32) (Q : Int32 → Prop) : Prop := wp_X3_targetsOf v0 i1 (fun r1 => Q ((i0 ||| ((1 : Int32) <<< (i1 &&& 31))) &&& (r1 ^^^ (-1 : Int32))))
def wp_X8_without (i0 : Int32) (i1 : Int32) (Q : Int32 → Prop) : Prop := Q (i0 &&& (((1 : Int32) <<< (i1 &&& 31)) ^^^ (-1 : Int32)))
def wp_X3_afterDrafts_L15 (v0 : LoomV) (x2 : Int32) (x4 : Int32) (Q : Int32 → Prop) (K5 : Int32 → Int32 → Prop) : Nat → Int32 → Int32 → Prop
  | 0, _, _ => False
  | n + 1, x3, x5 => (((10 : Int32) ≤ x5) → ∀ z3 : Int32, z3 = x4 + (1 : Int32) → K5 x3 z3) ∧ ((¬ (10 : Int32) ≤ x5) → wp_X3_hasTooMany v0 x4 x3 (fun r4 => ((r4 = 0) → ∀ z7 : Int32, z7 = x4 + (1 : Int32) → K5 x3 z7) ∧ ((¬ r4 = 0) → vp_in x4 6 ∧ (wp_X8_without (x3 &&& (v0.2.2.2.2.1 x4.toNatClampNeg)) x2 (fun r9 => ∀ z11 : Int32, z11 = r9 &&& (-r9) → ∀ z12 : Int32, z12 = x3 &&& (z11 ^^^ (-1 : Int32)) → ∀ z13 : Int32, z13 = x5 + (1 : Int32) → (wp_X3_afterDrafts_L15 v0 x2 x4 Q K5 n) z12 z13)))))
def wp_X3_afterDrafts_L5 (v0 : LoomV) (x2 : Int32) (Q : Int32 → Prop) : Nat → Int32 → Int32 → Prop
  | 0, _, _ => False
  | n + 1, x3, x4 => (((6 : Int32) ≤ x4) → Q x3) ∧ ((¬ (6 : Int32) ≤ x4) → ∃ k : Nat, wp_X3_afterDrafts_L15 v0 x2 x4 Q (wp_X3_afterDrafts_L5 v0 x2 Q n) k x3 (0 : Int32))
def wp_X3_afterDrafts (v0 : LoomV) (i0 : Int32) (i1 : Int32) (Q : Int32 → Prop) : Prop := ∃ k : Nat, wp_X3_afterDrafts_L5 v0 i1 Q k i0 (0 : Int32)
def wp_X3_afterOpening (v0 : LoomV) (i0 : Int32) (i1 : Int32) (Q : Int32 → Prop) : Prop := wp_X3_afterCords v0 i0 i1 (fun r1 => wp_X3_afterDrafts v0 r1 i1 (fun r3 => Q r3))
def wp_X3_hallsFrom_L17 (v0 : LoomV) (x2 : Int32) (x4 : Int32) (Q : Int32 → Prop) (K7 : Int32 → Int32 → Prop) : Nat → Int32 → Int32 → Prop
  | 0, _, _ => False
  | n + 1, x3, x5 => (((10 : Int32) ≤ x5) → ∀ z4 : Int32, z4 = x4 + (1 : Int32) → K7 x3 z4) ∧ ((¬ (10 : Int32) ≤ x5) → vp_in x5 10 ∧ (vp_in x5 10 ∧ (∀ z7 : Int32, z7 = ((1 : Int32) <<< ((v0.2.2.1 x5.toNatClampNeg) &&& 31)) ||| ((1 : Int32) <<< ((v0.2.2.2.1 x5.toNatClampNeg) &&& 31)) → wp_X8_has x2 x5 (fun r8 => ((r8 = 0) → ∀ z11 : Int32, z11 = x5 + (1 : Int32) → (wp_X3_hallsFrom_L17 v0 x2 x4 Q K7 n) x3 z11) ∧ ((¬ r8 = 0) → (((x3 &&& z7) = 0) → ∀ z13 : Int32, z13 = x5 + (1 : Int32) → (wp_X3_hallsFrom_L17 v0 x2 x4 Q K7 n) x3 z13) ∧ ((¬ (x3 &&& z7) = 0) → ∀ z14 : Int32, z14 = x3 ||| z7 → ∀ z15 : Int32, z15 = x5 + (1 : Int32) → (wp_X3_hallsFrom_L17 v0 x2 x4 Q K7 n) z14 z15))))))
def wp_X3_hallsFrom_L7 (v0 : LoomV) (x2 : Int32) (Q : Int32 → Prop) : Nat → Int32 → Int32 → Prop
  | 0, _, _ => False
  | n + 1, x3, x4 => (((6 : Int32) ≤ x4) → Q x3) ∧ ((¬ (6 : Int32) ≤ x4) → ∃ k : Nat, wp_X3_hallsFrom_L17 v0 x2 x4 Q (wp_X3_hallsFrom_L7 v0 x2 Q n) k x3 (0 : Int32))
def wp_X3_hallsFrom (v0 : LoomV) (i0 : Int32) (i1 : Int32) (Q : Int32 → Prop) : Prop := ∀ z1 : Int32, z1 = (1 : Int32) <<< (i0 &&& 31) → ∃ k : Nat, wp_X3_hallsFrom_L7 v0 i1 Q k z1 (0 : Int32)
def wp_X3_pairsOfHalls_L4 (v0 : LoomV) (x1 : Int32) (Q : Int32 → Prop) : Nat → Int32 → Int32 → Prop
  | 0, _, _ => False
  | n + 1, x2, x3 => (((6 : Int32) ≤ x3) → Q (x2 / (2 : Int32))) ∧ ((¬ (6 : Int32) ≤ x3) → wp_X3_hallsFrom v0 x3 x1 (fun r2 => wp_J6_bitCount_0f7a4 r2 (fun r4 => ∀ z6 : Int32, z6 = x2 + (r4 - (1 : Int32)) → ∀ z7 : Int32, z7 = x3 + (1 : Int32) → (wp_X3_pairsOfHalls_L4 v0 x1 Q n) z6 z7)))
def wp_X3_pairsOfHalls (v0 : LoomV) (i0 : Int32) (Q : Int32 → Prop) : Prop := ∃ k : Nat, wp_X3_pairsOfHalls_L4 v0 i0 Q k (0 : Int32) (0 : Int32)
def wp_X4_add (v0 : PadV) (i0 : Int32) (Q : Int32 → PadV → Prop) : Prop := (((60 : Int32) ≤ v0.2) → Q v0.2 v0) ∧ ((¬ (60 : Int32) ≤ v0.2) → vp_in v0.2 60 ∧ ∀ g3 : Nat → Int32, g3 = upd v0.1 v0.2.toNatClampNeg i0 → ∀ z4 : Int32, z4 = v0.2 + (1 : Int32) → Q z4 (g3, z4))
def wp_X4_empty (v0 : PadV) (Q : Int32 → PadV → Prop) : Prop := ∀ z1 : Int32, z1 = v0.2 → Q z1 (v0.1, (0 : Int32))
def wp_X4_codeAt (v0 : PadV) (i0 : Int32) (Q : Int32 → Prop) : Prop := ((i0 < 0) → Q (0 : Int32)) ∧ ((¬ i0 < 0) → ((v0.2 ≤ i0) → Q (0 : Int32)) ∧ ((¬ v0.2 ≤ i0) → vp_in i0 60 ∧ (Q (v0.1 i0.toNatClampNeg))))
def wp_X8_isGuest (i0 : Int32) (Q : Int32 → Prop) : Prop := ((i0 < 0) → Q (0 : Int32)) ∧ ((¬ i0 < 0) → (((3 : Int32) ≤ i0) → Q (0 : Int32)) ∧ ((¬ (3 : Int32) ≤ i0) → Q (1 : Int32)))
def wp_X8_isDoor (i0 : Int32) (Q : Int32 → Prop) : Prop := ((i0 < 0) → Q (0 : Int32)) ∧ ((¬ i0 < 0) → (((10 : Int32) ≤ i0) → Q (0 : Int32)) ∧ ((¬ (10 : Int32) ≤ i0) → Q (1 : Int32)))
def wp_X4_expectedAfter (i0 : Int32) (i1 : Int32) (Q : Int32 → Prop) : Prop := (i0 = (0 : Int32) → ((¬ i1 = (103 : Int32)) → ((i1 = (111 : Int32)) → Q (3 : Int32)) ∧ ((¬ i1 = (111 : Int32)) → ((¬ i1 = (99 : Int32)) → Q (5 : Int32)) ∧ ((i1 = (99 : Int32)) → Q (3 : Int32)))) ∧ ((i1 = (103 : Int32)) → Q (1 : Int32))) ∧ (i0 = (1 : Int32) → wp_X8_isGuest (i1 - (48 : Int32)) (fun r6 => ((r6 = 0) → Q (5 : Int32)) ∧ ((¬ r6 = 0) → Q (2 : Int32)))) ∧ (i0 = (2 : Int32) → ((i1 = (111 : Int32)) → Q (3 : Int32)) ∧ ((¬ i1 = (111 : Int32)) → ((i1 = (99 : Int32)) → Q (3 : Int32)) ∧ ((¬ i1 = (99 : Int32)) → ((¬ i1 = (119 : Int32)) → Q (5 : Int32)) ∧ ((i1 = (119 : Int32)) → Q (3 : Int32))))) ∧ (i0 = (3 : Int32) → wp_X8_isDoor (i1 - (48 : Int32)) (fun r14 => ((r14 = 0) → Q (5 : Int32)) ∧ ((¬ r14 = 0) → Q (4 : Int32)))) ∧ (i0 = (4 : Int32) → ((¬ i1 = (59 : Int32)) → Q (5 : Int32)) ∧ ((i1 = (59 : Int32)) → Q (0 : Int32))) ∧ (¬ i0 = (0 : Int32) → ¬ i0 = (1 : Int32) → ¬ i0 = (2 : Int32) → ¬ i0 = (3 : Int32) → ¬ i0 = (4 : Int32) → Q (5 : Int32))
def wp_X4_faultPlace_L4 (v0 : PadV) (Q : Int32 → Prop) : Nat → Int32 → Int32 → Prop
  | 0, _, _ => False
  | n + 1, x1, x2 => ((v0.2 ≤ x2) → ((¬ x1 = (4 : Int32)) → Q v0.2) ∧ ((x1 = (4 : Int32)) → Q (-4 : Int32))) ∧ ((¬ v0.2 ≤ x2) → wp_X4_codeAt v0 x2 (fun r3 => wp_X4_expectedAfter x1 r3 (fun r5 => ((¬ r5 = (5 : Int32)) → ∀ z8 : Int32, z8 = x2 + (1 : Int32) → (wp_X4_faultPlace_L4 v0 Q n) r5 z8) ∧ ((r5 = (5 : Int32)) → Q x2))))
def wp_X4_faultPlace (v0 : PadV) (Q : Int32 → Prop) : Prop := ∃ k : Nat, wp_X4_faultPlace_L4 v0 Q k (0 : Int32) (0 : Int32)
def wp_X4_isGuestsDeed (v0 : PadV) (i0 : Int32) (Q : Int32 → Prop) : Prop := wp_X4_codeAt v0 i0 (fun r1 => ((¬ r1 = (103 : Int32)) → Q (0 : Int32)) ∧ ((r1 = (103 : Int32)) → Q (1 : Int32)))
def wp_X4_guestOfDeed (v0 : PadV) (i0 : Int32) (Q : Int32 → Prop) : Prop := wp_X4_codeAt v0 (i0 + (1 : Int32)) (fun r1 => Q (r1 - (48 : Int32)))
def wp_X4_placeOfLetter (v0 : PadV) (i0 : Int32) (Q : Int32 → Prop) : Prop := wp_X4_isGuestsDeed v0 i0 (fun r1 => ((r1 = 0) → Q i0) ∧ ((¬ r1 = 0) → Q (i0 + (2 : Int32))))
def wp_X4_letterOfDeed (v0 : PadV) (i0 : Int32) (Q : Int32 → Prop) : Prop := wp_X4_placeOfLetter v0 i0 (fun r1 => wp_X4_codeAt v0 r1 (fun r3 => Q r3))
def wp_X4_doorOfDeed (v0 : PadV) (i0 : Int32) (Q : Int32 → Prop) : Prop := wp_X4_placeOfLetter v0 i0 (fun r1 => wp_X4_codeAt v0 (r1 + (1 : Int32)) (fun r3 => Q (r3 - (48 : Int32))))
def wp_X4_placeOfNextDeed (v0 : PadV) (i0 : Int32) (Q : Int32 → Prop) : Prop := wp_X4_placeOfLetter v0 i0 (fun r1 => Q (r1 + (3 : Int32)))
def wp_X5_isOpen (v0 : StV) (i0 : Int32) (Q : Int32 → Prop) : Prop := wp_X8_has v0.2.2.2 i0 (fun r1 => Q r1)
def wp_X5_shutDoors (v0 : StV) (Q : Int32 → Prop) : Prop := Q ((1023 : Int32) &&& (v0.2.2.2 ^^^ (-1 : Int32)))
def wp_X5_reasonNotToOpen (v0 : StV) (i0 : Int32) (Q : Int32 → Prop) : Prop := wp_X5_isOpen v0 i0 (fun r1 => ((r1 = 0) → wp_X3_heldBy v0.1 v0.2.2.2 (fun r4 => wp_X8_has r4 i0 (fun r6 => ((r6 = 0) → Q (0 : Int32)) ∧ ((¬ r6 = 0) → Q (2 : Int32))))) ∧ ((¬ r1 = 0) → Q (1 : Int32)))
def wp_X5_reasonNotToShut (v0 : StV) (i0 : Int32) (Q : Int32 → Prop) : Prop := wp_X5_isOpen v0 i0 (fun r1 => ((r1 = 0) → Q (3 : Int32)) ∧ ((¬ r1 = 0) → Q (0 : Int32)))
def wp_X5_isAtDoor (v0 : StV) (i0 : Int32) (i1 : Int32) (Q : Int32 → Prop) : Prop := vp_in i0 3 ∧ (wp_X3_doorsOf v0.1 (v0.2.1.1 i0.toNatClampNeg) (fun r2 => wp_X8_has r2 i1 (fun r4 => Q r4)))
def wp_X5_reasonNotToOpenAsGuest (v0 : StV) (i0 : Int32) (i1 : Int32) (Q : Int32 → Prop) : Prop := wp_X5_isAtDoor v0 i0 i1 (fun r1 => ((¬ r1 = 0) → vp_in i0 3 ∧ (wp_X8_has (v0.2.1.2.1 i0.toNatClampNeg) i1 (fun r5 => ((r5 = 0) → Q (6 : Int32)) ∧ ((¬ r5 = 0) → wp_X5_reasonNotToOpen v0 i1 (fun r8 => Q r8))))) ∧ ((r1 = 0) → Q (5 : Int32)))
def wp_X5_reasonNotToUse (v0 : StV) (i0 : Int32) (i1 : Int32) (Q : Int32 → Prop) : Prop := wp_X5_isAtDoor v0 i0 i1 (fun r1 => ((r1 = 0) → Q (5 : Int32)) ∧ ((¬ r1 = 0) → wp_X5_reasonNotToShut v0 i1 (fun r4 => Q r4)))
def wp_X5_howManyCouldOpen_L4 (v0 : StV) (x1 : Int32) (Q : Int32 → Prop) : Nat → Int32 → Int32 → Prop
  | 0, _, _ => False
  | n + 1, x2, x3 => (((10 : Int32) ≤ x3) → Q x2) ∧ ((¬ (10 : Int32) ≤ x3) → wp_X5_reasonNotToOpenAsGuest v0 x1 x3 (fun r2 => ((¬ r2 = 0) → ∀ z5 : Int32, z5 = x3 + (1 : Int32) → (wp_X5_howManyCouldOpen_L4 v0 x1 Q n) x2 z5) ∧ ((r2 = 0) → ∀ z6 : Int32, z6 = x2 + (1 : Int32) → ∀ z7 : Int32, z7 = x3 + (1 : Int32) → (wp_X5_howManyCouldOpen_L4 v0 x1 Q n) z6 z7)))
def wp_X5_howManyCouldOpen (v0 : StV) (i0 : Int32) (Q : Int32 → Prop) : Prop := ∃ k : Nat, wp_X5_howManyCouldOpen_L4 v0 i0 Q k (0 : Int32) (0 : Int32)
def wp_X5_opensUnless (v0 : StV) (i0 : Int32) (i1 : Int32) (Q : Int32 → StV → Prop) : Prop := ((i0 = 0) → wp_X3_afterCords v0.1 v0.2.2.2 i1 (fun r2 => wp_X3_afterDrafts v0.1 r2 i1 (fun r4 => ∀ z6 : Int32, z6 = v0.2.2.2 &&& (r2 ^^^ (-1 : Int32)) → ∀ z7 : Int32, z7 = r2 &&& (r4 ^^^ (-1 : Int32)) → wp_X0_noteOpened v0.2.2.1 i1 (fun u9 => wp_X0_noteShutByOpening u9 z6 z7 (fun u11 => wp_J6_bitCount_0f7a4 (z6 ||| z7) (fun r12 => Q ((10 : Int32) + r12) (v0.1, v0.2.1, u11, r4))))))) ∧ ((¬ i0 = 0) → wp_X0_noteRefused v0.2.2.1 i0 (fun r14 u15 => Q r14 (v0.1, v0.2.1, u15, v0.2.2.2)))
def wp_X5_servantOpens (v0 : StV) (i0 : Int32) (Q : Int32 → StV → Prop) : Prop := wp_X5_reasonNotToOpen v0 i0 (fun r1 => wp_X5_opensUnless v0 r1 i0 (fun r3 u4 => Q r3 u4))
def wp_X5_shutsUnless (v0 : StV) (i0 : Int32) (i1 : Int32) (Q : Int32 → StV → Prop) : Prop := ((i0 = 0) → wp_X0_noteShutByHand v0.2.2.1 i1 (fun u3 => wp_X8_without v0.2.2.2 i1 (fun r4 => Q (10 : Int32) (v0.1, v0.2.1, u3, r4)))) ∧ ((¬ i0 = 0) → wp_X0_noteRefused v0.2.2.1 i0 (fun r6 u7 => Q r6 (v0.1, v0.2.1, u7, v0.2.2.2)))
def wp_X5_servantShuts (v0 : StV) (i0 : Int32) (Q : Int32 → StV → Prop) : Prop := wp_X5_reasonNotToShut v0 i0 (fun r1 => wp_X5_shutsUnless v0 r1 i0 (fun r3 u4 => Q r3 u4))
def wp_X5_opensAsGuest (v0 : StV) (i0 : Int32) (i1 : Int32) (Q : Int32 → StV → Prop) : Prop := wp_X5_reasonNotToOpenAsGuest v0 i0 i1 (fun r1 => wp_X5_opensUnless v0 r1 i1 (fun r3 u4 => Q r3 u4))
def wp_X5_shutsAsGuest (v0 : StV) (i0 : Int32) (i1 : Int32) (Q : Int32 → StV → Prop) : Prop := wp_X5_reasonNotToUse v0 i0 i1 (fun r1 => wp_X5_shutsUnless v0 r1 i1 (fun r3 u4 => Q r3 u4))
def wp_X5_walksThrough (v0 : StV) (i0 : Int32) (i1 : Int32) (Q : Int32 → StV → Prop) : Prop := wp_X5_reasonNotToUse v0 i0 i1 (fun r1 => ((r1 = 0) → vp_in i0 3 ∧ (wp_X3_otherHall v0.1 i1 (v0.2.1.1 i0.toNatClampNeg) (fun r5 => vp_in i0 3 ∧ ∀ g8 : Nat → Int32, g8 = upd v0.2.1.1 i0.toNatClampNeg r5 → vp_in i0 3 ∧ (vp_in i0 3 ∧ ∀ g11 : Nat → Int32, g11 = upd v0.2.1.2.2 i0.toNatClampNeg ((v0.2.1.2.2 i0.toNatClampNeg) + (1 : Int32)) → vp_in i0 3 ∧ (Q ((10 : Int32) + (g8 i0.toNatClampNeg)) (v0.1, (g8, v0.2.1.2.1, g11), v0.2.2.1, v0.2.2.2)))))) ∧ ((¬ r1 = 0) → wp_X0_noteRefused v0.2.2.1 r1 (fun r13 u14 => Q r13 (v0.1, v0.2.1, u14, v0.2.2.2))))
def wp_X5_laysCord (v0 : StV) (i0 : Int32) (i1 : Int32) (i2 : Int32) (Q : Int32 → StV → Prop) : Prop := wp_X5_isOpen v0 i0 (fun r1 => ((r1 = 0) → wp_X3_layCord v0.1 i0 i1 i2 (fun u5 => Q (10 : Int32) (u5, v0.2.1, v0.2.2.1, v0.2.2.2))) ∧ ((¬ r1 = 0) → ((i2 = (10 : Int32)) → wp_X3_layCord v0.1 i0 i1 i2 (fun u8 => Q (10 : Int32) (u8, v0.2.1, v0.2.2.1, v0.2.2.2))) ∧ ((¬ i2 = (10 : Int32)) → wp_X5_isOpen v0 i2 (fun r9 => ((r9 = 0) → wp_X3_layCord v0.1 i0 i1 i2 (fun u13 => Q (10 : Int32) (u13, v0.2.1, v0.2.2.1, v0.2.2.2))) ∧ ((¬ r9 = 0) → wp_X0_noteRefused v0.2.2.1 (4 : Int32) (fun r14 u15 => Q r14 (v0.1, v0.2.1, u15, v0.2.2.2)))))))
def wp_X6_forget (v0 : StopV) (Q : StopV → Prop) : Prop := Q ((0 : Int32), v0.2.1, v0.2.2)
def wp_X6_remember (v0 : StopV) (i0 : Int32) (i1 : Int32) (i2 : Int32) (Q : StopV → Prop) : Prop := Q (i0, i1, i2)
def wp_X6_happened (v0 : StopV) (Q : Int32 → Prop) : Prop := ((v0.1 = 0) → Q (0 : Int32)) ∧ ((¬ v0.1 = 0) → Q (1 : Int32))
def wp_J7_fill_53178_L5 (N0 : Nat) (x1 : Int32) (x3 : Int32) (Q : (Nat → Int32) → Prop) : Nat → Int32 → (Nat → Int32) → Prop
  | 0, _, _ => False
  | n + 1, x2, w0 => ((x3 ≤ x2) → Q w0) ∧ ((¬ x3 ≤ x2) → vp_in x2 N0 ∧ ∀ g4 : Nat → Int32, g4 = upd w0 x2.toNatClampNeg x1 → ∀ z5 : Int32, z5 = x2 + (1 : Int32) → (wp_J7_fill_53178_L5 N0 x1 x3 Q n) z5 g4)
def wp_J7_fill_53178 (N0 : Nat) (v0 : (Nat → Int32)) (i0 : Int32) (Q : (Nat → Int32) → Prop) : Prop := ∀ z1 : Int32, z1 = Int32.ofNat N0 → ∃ k : Nat, wp_J7_fill_53178_L5 N0 i0 z1 Q k (0 : Int32) v0
def wp_X7_reach (v0 : WaysV) (i0 : Int32) (i1 : Int32) (Q : WaysV → Prop) : Prop := vp_in i0 6144 ∧ (((¬ (v0.1 i0.toNatClampNeg) = (6144 : Int32)) → Q v0) ∧ (((v0.1 i0.toNatClampNeg) = (6144 : Int32)) → (((6144 : Int32) ≤ v0.2.2) → Q v0) ∧ ((¬ (6144 : Int32) ≤ v0.2.2) → vp_in i0 6144 ∧ ∀ g5 : Nat → Int32, g5 = upd v0.1 i0.toNatClampNeg i1 → vp_in v0.2.2 6144 ∧ ∀ g7 : Nat → Int32, g7 = upd v0.2.1 v0.2.2.toNatClampNeg i0 → ∀ z8 : Int32, z8 = v0.2.2 + (1 : Int32) → Q (g5, g7, z8))))
def wp_X8_spot (i0 : Int32) (i1 : Int32) (Q : Int32 → Prop) : Prop := Q ((i0 * (6 : Int32)) + i1)
def wp_X7_goOnFrom_L53 (v1 : LoomV) (x4 : Int32) (x5 : Int32) (x6 : Int32) (x7 : Int32) (x8 : Int32) (Q : WaysV → Prop) : Nat → Int32 → WaysV → Prop
  | 0, _, _ => False
  | n + 1, x9, w0 => (((10 : Int32) ≤ x9) → Q w0) ∧ ((¬ (10 : Int32) ≤ x9) → wp_X8_has (x7 &&& x4) x9 (fun r11 => ((r11 = 0) → wp_X8_has x8 x9 (fun r14 => ((r14 = 0) → ∀ z17 : Int32, z17 = x9 + (1 : Int32) → (wp_X7_goOnFrom_L53 v1 x4 x5 x6 x7 x8 Q n) z17 w0) ∧ ((¬ r14 = 0) → wp_X3_afterOpening v1 x4 x9 (fun r18 => wp_X8_spot r18 x5 (fun r20 => wp_X7_reach w0 r20 x6 (fun u23 => ∀ z24 : Int32, z24 = x9 + (1 : Int32) → (wp_X7_goOnFrom_L53 v1 x4 x5 x6 x7 x8 Q n) z24 u23)))))) ∧ ((¬ r11 = 0) → wp_X3_otherHall v1 x9 x5 (fun r25 => wp_X8_spot x4 r25 (fun r27 => wp_X7_reach w0 r27 x6 (fun u30 => wp_X8_without x4 x9 (fun r31 => wp_X8_spot r31 x5 (fun r33 => wp_X7_reach u30 r33 x6 (fun u36 => ∀ z37 : Int32, z37 = x9 + (1 : Int32) → (wp_X7_goOnFrom_L53 v1 x4 x5 x6 x7 x8 Q n) z37 u36)))))))))
def wp_X7_goOnFrom (v0 : WaysV) (v1 : LoomV) (i0 : Int32) (i1 : Int32) (Q : WaysV → Prop) : Prop := ∀ z1 : Int32, z1 = i0 / (6 : Int32) → ∀ z2 : Int32, z2 = i0 - i0 / (6 : Int32) * (6 : Int32) → vp_in i0 6144 ∧ (∀ z4 : Int32, z4 = (v0.1 i0.toNatClampNeg) + (1 : Int32) → wp_X3_doorsOf v1 z2 (fun r5 => wp_X3_heldBy v1 z1 (fun r7 => ∀ z9 : Int32, z9 = ((r5 &&& i1) &&& (z1 ^^^ (-1 : Int32))) &&& (r7 ^^^ (-1 : Int32)) → ∃ k : Nat, wp_X7_goOnFrom_L53 v1 z1 z2 z4 r5 z9 Q k (0 : Int32) v0)))
def wp_X7_fromNowOn_L24 (v1 : LoomV) (x3 : Int32) (x4 : Int32) (Q : Int32 → WaysV → Prop) : Nat → Int32 → WaysV → Prop
  | 0, _, _ => False
  | n + 1, x5, w0 => ((w0.2.2 ≤ x5) → Q (-4 : Int32) w0) ∧ ((¬ w0.2.2 ≤ x5) → (((6144 : Int32) ≤ x5) → Q (-4 : Int32) w0) ∧ ((¬ (6144 : Int32) ≤ x5) → vp_in x5 6144 ∧ (∀ z8 : Int32, z8 = w0.2.1 x5.toNatClampNeg → ((¬ (z8 - z8 / (6 : Int32) * (6 : Int32)) = x4) → wp_X7_goOnFrom w0 v1 z8 x3 (fun u11 => ∀ z12 : Int32, z12 = x5 + (1 : Int32) → (wp_X7_fromNowOn_L24 v1 x3 x4 Q n) z12 u11)) ∧ (((z8 - z8 / (6 : Int32) * (6 : Int32)) = x4) → vp_in z8 6144 ∧ (Q (w0.1 z8.toNatClampNeg) w0)))))
def wp_X7_fromNowOn (v0 : WaysV) (v1 : LoomV) (i0 : Int32) (i1 : Int32) (i2 : Int32) (Q : Int32 → WaysV → Prop) : Prop := wp_J7_fill_53178 6144 v0.1 (6144 : Int32) (fun u2 => wp_X7_reach (u2, v0.2.1, (0 : Int32)) i0 (0 : Int32) (fun u4 => ∃ k : Nat, wp_X7_fromNowOn_L24 v1 i1 i2 Q k (0 : Int32) u4))
def wp_X7_lineUpSets_B37 (v1 : LoomV) (x2 : Int32) (x3 : Int32) (t0 : Int32) (w0 : WaysV) (Q : WaysV → Prop) (K7 : Int32 → WaysV → Prop) : Prop := ((t0 = 0) → ∀ z5 : Int32, z5 = x3 + (1 : Int32) → K7 z5 w0) ∧ ((¬ t0 = 0) → wp_X3_heldBy v1 x3 (fun r6 => ((¬ (r6 &&& x3) = 0) → ∀ z9 : Int32, z9 = x3 + (1 : Int32) → K7 z9 w0) ∧ (((r6 &&& x3) = 0) → vp_in w0.2.2 6144 ∧ ∀ g11 : Nat → Int32, g11 = upd w0.2.1 w0.2.2.toNatClampNeg x3 → ∀ z12 : Int32, z12 = w0.2.2 + (1 : Int32) → ∀ z13 : Int32, z13 = x3 + (1 : Int32) → K7 z13 (w0.1, g11, z12))))
def wp_X7_lineUpSets_L7 (v1 : LoomV) (x2 : Int32) (Q : WaysV → Prop) : Nat → Int32 → WaysV → Prop
  | 0, _, _ => False
  | n + 1, x3, w0 => (((1023 : Int32) < x3) → Q w0) ∧ ((¬ (1023 : Int32) < x3) → (((6144 : Int32) ≤ w0.2.2) → Q w0) ∧ ((¬ (6144 : Int32) ≤ w0.2.2) → ((¬ (x3 &&& (x2 ^^^ (-1 : Int32))) = 0) → wp_X7_lineUpSets_B37 v1 x2 x3 (0 : Int32) w0 Q (wp_X7_lineUpSets_L7 v1 x2 Q n)) ∧ (((x3 &&& (x2 ^^^ (-1 : Int32))) = 0) → wp_X7_lineUpSets_B37 v1 x2 x3 (1 : Int32) w0 Q (wp_X7_lineUpSets_L7 v1 x2 Q n))))
def wp_X7_lineUpSets (v0 : WaysV) (v1 : LoomV) (i0 : Int32) (Q : WaysV → Prop) : Prop := ∃ k : Nat, wp_X7_lineUpSets_L7 v1 i0 Q k (0 : Int32) (v0.1, v0.2.1, (0 : Int32))
def wp_X7_lessen (v0 : WaysV) (i0 : Int32) (i1 : Int32) (Q : Int32 → WaysV → Prop) : Prop := vp_in i1 6144 ∧ (vp_in i0 6144 ∧ (((((v0.1 i1.toNatClampNeg) + (1 : Int32)) < (v0.1 i0.toNatClampNeg)) → vp_in i1 6144 ∧ (vp_in i0 6144 ∧ ∀ g6 : Nat → Int32, g6 = upd v0.1 i0.toNatClampNeg ((v0.1 i1.toNatClampNeg) + (1 : Int32)) → Q (1 : Int32) (g6, v0.2.1, v0.2.2))) ∧ ((¬ ((v0.1 i1.toNatClampNeg) + (1 : Int32)) < (v0.1 i0.toNatClampNeg)) → Q (0 : Int32) v0)))
def wp_X7_lessenAll_B128 (v1 : LoomV) (x2 : Int32) (x4 : Int32) (x5 : Int32) (x6 : Int32) (x7 : Int32) (x8 : Int32) (x9 : Int32) (w0 : WaysV) (Q : Int32 → WaysV → Prop) (K21 : Int32 → Int32 → WaysV → Prop) : Prop := wp_X8_spot x2 x7 (fun r15 => wp_X8_spot x9 x7 (fun r17 => wp_X7_lessen w0 r15 r17 (fun r19 u20 => ∀ z21 : Int32, z21 = x5 + r19 → wp_X8_spot x2 x8 (fun r22 => wp_X8_spot x9 x8 (fun r24 => wp_X7_lessen u20 r22 r24 (fun r26 u27 => ∀ z28 : Int32, z28 = z21 + r26 → ∀ z29 : Int32, z29 = x6 + (1 : Int32) → K21 z28 z29 u27))))))
def wp_X7_lessenAll_L21 (v1 : LoomV) (x2 : Int32) (x4 : Int32) (Q : Int32 → WaysV → Prop) : Nat → Int32 → Int32 → WaysV → Prop
  | 0, _, _, _ => False
  | n + 1, x5, x6, w0 => (((10 : Int32) ≤ x6) → Q x5 w0) ∧ ((¬ (10 : Int32) ≤ x6) → wp_X3_lesserHall v1 x6 (fun r5 => wp_X3_greaterHall v1 x6 (fun r7 => wp_X8_has x2 x6 (fun r9 => ((r9 = 0) → wp_X8_has x4 x6 (fun r12 => ((r12 = 0) → wp_X7_lessenAll_B128 v1 x2 x4 x5 x6 r5 r7 x2 w0 Q (wp_X7_lessenAll_L21 v1 x2 x4 Q n)) ∧ ((¬ r12 = 0) → wp_X3_afterOpening v1 x2 x6 (fun r30 => wp_X7_lessenAll_B128 v1 x2 x4 x5 x6 r5 r7 r30 w0 Q (wp_X7_lessenAll_L21 v1 x2 x4 Q n))))) ∧ ((¬ r9 = 0) → wp_X8_spot x2 r5 (fun r32 => wp_X8_spot x2 r7 (fun r34 => wp_X7_lessen w0 r32 r34 (fun r36 u37 => ∀ z38 : Int32, z38 = x5 + r36 → wp_X8_spot x2 r7 (fun r39 => wp_X8_spot x2 r5 (fun r41 => wp_X7_lessen u37 r39 r41 (fun r43 u44 => ∀ z45 : Int32, z45 = z38 + r43 → wp_X8_without x2 x6 (fun r46 => wp_X7_lessenAll_B128 v1 x2 x4 z45 x6 r5 r7 r46 u44 Q (wp_X7_lessenAll_L21 v1 x2 x4 Q n)))))))))))))
def wp_X7_lessenAll (v0 : WaysV) (v1 : LoomV) (i0 : Int32) (i1 : Int32) (Q : Int32 → WaysV → Prop) : Prop := wp_X3_heldBy v1 i0 (fun r1 => ∀ z3 : Int32, z3 = (i1 &&& (i0 ^^^ (-1 : Int32))) &&& (r1 ^^^ (-1 : Int32)) → ∃ k : Nat, wp_X7_lessenAll_L21 v1 i0 z3 Q k (0 : Int32) (0 : Int32) v0)
def wp_X7_fromHallBack_B137 (v1 : LoomV) (x2 : Int32) (w0 : WaysV) (Q : Int32 → WaysV → Prop) : Prop := vp_in x2 6144 ∧ (((¬ (w0.1 x2.toNatClampNeg) = (6144 : Int32)) → vp_in x2 6144 ∧ (Q (w0.1 x2.toNatClampNeg) w0)) ∧ (((w0.1 x2.toNatClampNeg) = (6144 : Int32)) → Q (-4 : Int32) w0))
def wp_X7_fromHallBack_L90 (v1 : LoomV) (x2 : Int32) (x3 : Int32) (x6 : Int32) (Q : Int32 → WaysV → Prop) (K71 : Int32 → Int32 → WaysV → Prop) : Nat → Int32 → Int32 → WaysV → Prop
  | 0, _, _, _ => False
  | n + 1, x5, x7, w0 => ((w0.2.2 ≤ x7) → ∀ z12 : Int32, z12 = x6 + (1 : Int32) → K71 x5 z12 w0) ∧ ((¬ w0.2.2 ≤ x7) → (((6144 : Int32) ≤ x7) → ∀ z14 : Int32, z14 = x6 + (1 : Int32) → K71 x5 z14 w0) ∧ ((¬ (6144 : Int32) ≤ x7) → vp_in x7 6144 ∧ (wp_X7_lessenAll w0 v1 (w0.2.1 x7.toNatClampNeg) x3 (fun r16 u17 => ∀ z18 : Int32, z18 = x5 + r16 → ∀ z19 : Int32, z19 = x7 + (1 : Int32) → (wp_X7_fromHallBack_L90 v1 x2 x3 x6 Q K71 n) z18 z19 u17))))
def wp_X7_fromHallBack_L71 (v1 : LoomV) (x2 : Int32) (x3 : Int32) (Q : Int32 → WaysV → Prop) : Nat → Int32 → Int32 → WaysV → Prop
  | 0, _, _, _ => False
  | n + 1, x5, x6, w0 => (((6144 : Int32) ≤ x6) → wp_X7_fromHallBack_B137 v1 x2 w0 Q) ∧ ((¬ (6144 : Int32) ≤ x6) → ((x5 ≤ 0) → wp_X7_fromHallBack_B137 v1 x2 w0 Q) ∧ ((¬ x5 ≤ 0) → ∃ k : Nat, wp_X7_fromHallBack_L90 v1 x2 x3 x6 Q (wp_X7_fromHallBack_L71 v1 x2 x3 Q n) k (0 : Int32) (0 : Int32) w0))
def wp_X7_fromHallBack_L24 (v1 : LoomV) (x2 : Int32) (x3 : Int32) (x4 : Int32) (Q : Int32 → WaysV → Prop) : Nat → Int32 → WaysV → Prop
  | 0, _, _ => False
  | n + 1, x5, w0 => ((w0.2.2 ≤ x5) → ∃ k : Nat, wp_X7_fromHallBack_L71 v1 x2 x3 Q k (1 : Int32) (0 : Int32) w0) ∧ ((¬ w0.2.2 ≤ x5) → (((6144 : Int32) ≤ x5) → ∃ k : Nat, wp_X7_fromHallBack_L71 v1 x2 x3 Q k (1 : Int32) (0 : Int32) w0) ∧ ((¬ (6144 : Int32) ≤ x5) → vp_in x5 6144 ∧ (wp_X8_spot (w0.2.1 x5.toNatClampNeg) x4 (fun r22 => vp_in r22 6144 ∧ ∀ g25 : Nat → Int32, g25 = upd w0.1 r22.toNatClampNeg (0 : Int32) → ∀ z26 : Int32, z26 = x5 + (1 : Int32) → (wp_X7_fromHallBack_L24 v1 x2 x3 x4 Q n) z26 (g25, w0.2.1, w0.2.2)))))
def wp_X7_fromHallBack (v0 : WaysV) (v1 : LoomV) (i0 : Int32) (i1 : Int32) (i2 : Int32) (Q : Int32 → WaysV → Prop) : Prop := wp_J7_fill_53178 6144 v0.1 (6144 : Int32) (fun u2 => wp_X7_lineUpSets (u2, v0.2.1, v0.2.2) v1 ((i0 / (6 : Int32)) ||| i1) (fun u4 => ∃ k : Nat, wp_X7_fromHallBack_L24 v1 i0 i1 i2 Q k (0 : Int32) u4))
def wp_X8_open (v0 : CDV) (i0 : Int32) (Q : Int32 → CDV → Prop) : Prop := wp_X8_isDoor i0 (fun r1 => ((¬ r1 = 0) → wp_X2_record v0.2.1 v0.1 (fun u5 => wp_X5_servantOpens v0.1 i0 (fun r6 u7 => Q r6 (u7, u5, v0.2.2.1, v0.2.2.2.1, v0.2.2.2.2.1, v0.2.2.2.2.2.1, v0.2.2.2.2.2.2)))) ∧ ((r1 = 0) → Q (-1 : Int32) v0))
def wp_X8_shut (v0 : CDV) (i0 : Int32) (Q : Int32 → CDV → Prop) : Prop := wp_X8_isDoor i0 (fun r1 => ((¬ r1 = 0) → wp_X2_record v0.2.1 v0.1 (fun u5 => wp_X5_servantShuts v0.1 i0 (fun r6 u7 => Q r6 (u7, u5, v0.2.2.1, v0.2.2.2.1, v0.2.2.2.2.1, v0.2.2.2.2.2.1, v0.2.2.2.2.2.2)))) ∧ ((r1 = 0) → Q (-1 : Int32) v0))
def wp_X8_cord_B59 (x1 : Int32) (x2 : Int32) (x3 : Int32) (w0 : CDV) (Q : Int32 → CDV → Prop) : Prop := wp_X2_record w0.2.1 w0.1 (fun u10 => wp_X5_laysCord w0.1 x1 x2 x3 (fun r11 u12 => Q r11 (u12, u10, w0.2.2.1, w0.2.2.2.1, w0.2.2.2.2.1, w0.2.2.2.2.2.1, w0.2.2.2.2.2.2)))
def wp_X8_cord_B51 (x1 : Int32) (x2 : Int32) (x3 : Int32) (t0 : Int32) (t2 : Int32) (t3 : Int32) (w0 : CDV) (Q : Int32 → CDV → Prop) : Prop := wp_X3_cordOf w0.1.1 t2 t3 (fun r14 => ((¬ t0 = r14) → wp_X8_cord_B59 x1 x2 x3 w0 Q) ∧ ((t0 = r14) → Q (-1 : Int32) w0))
def wp_X8_cord_B20 (x1 : Int32) (x2 : Int32) (x3 : Int32) (w0 : CDV) (Q : Int32 → CDV → Prop) : Prop := ((¬ x3 = x1) → ((x3 = (10 : Int32)) → wp_X8_cord_B59 x1 x2 x3 w0 Q) ∧ ((¬ x3 = (10 : Int32)) → ((¬ x2 = 0) → wp_X8_cord_B51 x1 x2 x3 x3 x1 (0 : Int32) w0 Q) ∧ ((x2 = 0) → wp_X8_cord_B51 x1 x2 x3 x3 x1 (1 : Int32) w0 Q))) ∧ ((x3 = x1) → Q (-1 : Int32) w0)
def wp_X8_cord (v0 : CDV) (i0 : Int32) (i1 : Int32) (i2 : Int32) (Q : Int32 → CDV → Prop) : Prop := wp_X8_isDoor i0 (fun r1 => ((r1 = 0) → Q (-1 : Int32) v0) ∧ ((¬ r1 = 0) → wp_X8_isDoor i2 (fun r4 => ((¬ r4 = 0) → wp_X8_cord_B20 i0 i1 i2 v0 Q) ∧ ((r4 = 0) → ((¬ i2 = (10 : Int32)) → Q (-1 : Int32) v0) ∧ ((i2 = (10 : Int32)) → wp_X8_cord_B20 i0 i1 i2 v0 Q)))))
def wp_X8_isHall (i0 : Int32) (Q : Int32 → Prop) : Prop := ((i0 < 0) → Q (0 : Int32)) ∧ ((¬ i0 < 0) → (((6 : Int32) ≤ i0) → Q (0 : Int32)) ∧ ((¬ (6 : Int32) ≤ i0) → Q (1 : Int32)))
def wp_X8_join (v0 : CDV) (i0 : Int32) (i1 : Int32) (i2 : Int32) (Q : Int32 → CDV → Prop) : Prop := wp_X8_isDoor i0 (fun r1 => ((r1 = 0) → Q (-1 : Int32) v0) ∧ ((¬ r1 = 0) → wp_X8_isHall i1 (fun r4 => ((r4 = 0) → Q (-1 : Int32) v0) ∧ ((¬ r4 = 0) → wp_X8_isHall i2 (fun r7 => ((r7 = 0) → Q (-1 : Int32) v0) ∧ ((¬ r7 = 0) → ((¬ i1 = i2) → wp_X5_isOpen v0.1 i0 (fun r11 => ((r11 = 0) → wp_X2_record v0.2.1 v0.1 (fun u15 => wp_X3_lesserHall v0.1.1 i0 (fun r16 => wp_X3_greaterHall v0.1.1 i0 (fun r18 => ∀ z20 : Int32, z20 = ((10 : Int32) * r16) + r18 → wp_X3_hang v0.1.1 i0 i1 i2 (fun u22 => Q z20 ((u22, v0.1.2.1, v0.1.2.2.1, v0.1.2.2.2), u15, v0.2.2.1, v0.2.2.2.1, v0.2.2.2.2.1, v0.2.2.2.2.2.1, v0.2.2.2.2.2.2)))))) ∧ ((¬ r11 = 0) → Q (-2 : Int32) v0))) ∧ ((i1 = i2) → Q (-1 : Int32) v0)))))))
def wp_X8_isSetOfDoors (i0 : Int32) (Q : Int32 → Prop) : Prop := ((i0 < 0) → Q (0 : Int32)) ∧ ((¬ i0 < 0) → (((1023 : Int32) < i0) → Q (0 : Int32)) ∧ ((¬ (1023 : Int32) < i0) → Q (1 : Int32)))
def wp_X8_keys (v0 : CDV) (i0 : Int32) (i1 : Int32) (Q : Int32 → CDV → Prop) : Prop := wp_X8_isGuest i0 (fun r1 => ((r1 = 0) → Q (-1 : Int32) v0) ∧ ((¬ r1 = 0) → wp_X8_isSetOfDoors i1 (fun r4 => ((¬ r4 = 0) → wp_X2_record v0.2.1 v0.1 (fun u8 => vp_in i0 3 ∧ (∀ z10 : Int32, z10 = v0.1.2.1.2.1 i0.toNatClampNeg → vp_in i0 3 ∧ ∀ g12 : Nat → Int32, g12 = upd v0.1.2.1.2.1 i0.toNatClampNeg i1 → Q z10 ((v0.1.1, (v0.1.2.1.1, g12, v0.1.2.1.2.2), v0.1.2.2.1, v0.1.2.2.2), u8, v0.2.2.1, v0.2.2.2.1, v0.2.2.2.2.1, v0.2.2.2.2.2.1, v0.2.2.2.2.2.2)))) ∧ ((r4 = 0) → Q (-1 : Int32) v0))))
def wp_X8_draft (v0 : CDV) (i0 : Int32) (Q : Int32 → CDV → Prop) : Prop := ((i0 < (1 : Int32)) → Q (-1 : Int32) v0) ∧ ((¬ i0 < (1 : Int32)) → ((i0 ≤ (10 : Int32)) → wp_X2_record v0.2.1 v0.1 (fun u4 => ∀ z5 : Int32, z5 = v0.1.1.2.2.2.2.2 → Q z5 (((v0.1.1.1, v0.1.1.2.1, v0.1.1.2.2.1, v0.1.1.2.2.2.1, v0.1.1.2.2.2.2.1, i0), v0.1.2.1, v0.1.2.2.1, v0.1.2.2.2), u4, v0.2.2.1, v0.2.2.2.1, v0.2.2.2.2.1, v0.2.2.2.2.2.1, v0.2.2.2.2.2.2))) ∧ ((¬ i0 ≤ (10 : Int32)) → Q (-1 : Int32) v0))
def wp_X8_guestOpens (v0 : CDV) (i0 : Int32) (i1 : Int32) (Q : Int32 → CDV → Prop) : Prop := wp_X8_isGuest i0 (fun r1 => ((r1 = 0) → Q (-1 : Int32) v0) ∧ ((¬ r1 = 0) → wp_X8_isDoor i1 (fun r4 => ((¬ r4 = 0) → wp_X2_record v0.2.1 v0.1 (fun u8 => wp_X5_opensAsGuest v0.1 i0 i1 (fun r9 u10 => Q r9 (u10, u8, v0.2.2.1, v0.2.2.2.1, v0.2.2.2.2.1, v0.2.2.2.2.2.1, v0.2.2.2.2.2.2)))) ∧ ((r4 = 0) → Q (-1 : Int32) v0))))
def wp_X8_guestShuts (v0 : CDV) (i0 : Int32) (i1 : Int32) (Q : Int32 → CDV → Prop) : Prop := wp_X8_isGuest i0 (fun r1 => ((r1 = 0) → Q (-1 : Int32) v0) ∧ ((¬ r1 = 0) → wp_X8_isDoor i1 (fun r4 => ((¬ r4 = 0) → wp_X2_record v0.2.1 v0.1 (fun u8 => wp_X5_shutsAsGuest v0.1 i0 i1 (fun r9 u10 => Q r9 (u10, u8, v0.2.2.1, v0.2.2.2.1, v0.2.2.2.2.1, v0.2.2.2.2.2.1, v0.2.2.2.2.2.2)))) ∧ ((r4 = 0) → Q (-1 : Int32) v0))))
def wp_X8_walk (v0 : CDV) (i0 : Int32) (i1 : Int32) (Q : Int32 → CDV → Prop) : Prop := wp_X8_isGuest i0 (fun r1 => ((r1 = 0) → Q (-1 : Int32) v0) ∧ ((¬ r1 = 0) → wp_X8_isDoor i1 (fun r4 => ((¬ r4 = 0) → wp_X2_record v0.2.1 v0.1 (fun u8 => wp_X5_walksThrough v0.1 i0 i1 (fun r9 u10 => Q r9 (u10, u8, v0.2.2.1, v0.2.2.2.1, v0.2.2.2.2.1, v0.2.2.2.2.2.1, v0.2.2.2.2.2.2)))) ∧ ((r4 = 0) → Q (-1 : Int32) v0))))
def wp_X8_append (v0 : CDV) (i0 : Int32) (Q : Int32 → CDV → Prop) : Prop := ((i0 < (33 : Int32)) → Q (-1 : Int32) v0) ∧ ((¬ i0 < (33 : Int32)) → ((i0 ≤ (126 : Int32)) → ((v0.2.2.2.2.1.2 < (60 : Int32)) → wp_X4_add v0.2.2.2.2.1 i0 (fun r4 u5 => Q r4 (v0.1, v0.2.1, v0.2.2.1, v0.2.2.2.1, u5, v0.2.2.2.2.2.1, v0.2.2.2.2.2.2))) ∧ ((¬ v0.2.2.2.2.1.2 < (60 : Int32)) → Q (-3 : Int32) v0)) ∧ ((¬ i0 ≤ (126 : Int32)) → Q (-1 : Int32) v0))
def wp_X8_clear (v0 : CDV) (Q : Int32 → CDV → Prop) : Prop := wp_X4_empty v0.2.2.2.2.1 (fun r1 u2 => Q r1 (v0.1, v0.2.1, v0.2.2.1, v0.2.2.2.1, u2, v0.2.2.2.2.2.1, v0.2.2.2.2.2.2))
def wp_X8_fault (v0 : CDV) (Q : Int32 → Prop) : Prop := wp_X4_faultPlace v0.2.2.2.2.1 (fun r1 => Q r1)
def wp_X8_runDeedAt (v0 : CDV) (i0 : Int32) (Q : Int32 → CDV → Prop) : Prop := wp_X4_doorOfDeed v0.2.2.2.2.1 i0 (fun r1 => wp_X4_letterOfDeed v0.2.2.2.2.1 i0 (fun r3 => wp_X4_isGuestsDeed v0.2.2.2.2.1 i0 (fun r5 => ((¬ r5 = 0) → wp_X4_guestOfDeed v0.2.2.2.2.1 i0 (fun r8 => ((¬ r3 = (119 : Int32)) → ((¬ r3 = (111 : Int32)) → wp_X5_shutsAsGuest v0.1 r8 r1 (fun r12 u13 => Q r12 (u13, v0.2.1, v0.2.2.1, v0.2.2.2.1, v0.2.2.2.2.1, v0.2.2.2.2.2.1, v0.2.2.2.2.2.2))) ∧ ((r3 = (111 : Int32)) → wp_X5_opensAsGuest v0.1 r8 r1 (fun r14 u15 => Q r14 (u15, v0.2.1, v0.2.2.1, v0.2.2.2.1, v0.2.2.2.2.1, v0.2.2.2.2.2.1, v0.2.2.2.2.2.2)))) ∧ ((r3 = (119 : Int32)) → wp_X5_walksThrough v0.1 r8 r1 (fun r16 u17 => Q r16 (u17, v0.2.1, v0.2.2.1, v0.2.2.2.1, v0.2.2.2.2.1, v0.2.2.2.2.2.1, v0.2.2.2.2.2.2))))) ∧ ((r5 = 0) → ((¬ r3 = (111 : Int32)) → wp_X5_servantShuts v0.1 r1 (fun r19 u20 => Q r19 (u20, v0.2.1, v0.2.2.1, v0.2.2.2.1, v0.2.2.2.2.1, v0.2.2.2.2.2.1, v0.2.2.2.2.2.2))) ∧ ((r3 = (111 : Int32)) → wp_X5_servantOpens v0.1 r1 (fun r21 u22 => Q r21 (u22, v0.2.1, v0.2.2.1, v0.2.2.2.1, v0.2.2.2.2.1, v0.2.2.2.2.2.1, v0.2.2.2.2.2.2)))))))
def wp_X8_run_L39 (Q : Int32 → CDV → Prop) : Nat → Int32 → Int32 → Int32 → CDV → Prop
  | 0, _, _, _, _ => False
  | n + 1, x1, x2, x3, w0 => (((60 : Int32) ≤ x3) → wp_X4_empty w0.2.2.2.2.1 (fun r9 u10 => Q x2 (w0.1, w0.2.1, w0.2.2.1, w0.2.2.2.1, u10, w0.2.2.2.2.2.1, w0.2.2.2.2.2.2))) ∧ ((¬ (60 : Int32) ≤ x3) → ((w0.2.2.2.2.1.2 ≤ x1) → wp_X4_empty w0.2.2.2.2.1 (fun r12 u13 => Q x2 (w0.1, w0.2.1, w0.2.2.1, w0.2.2.2.1, u13, w0.2.2.2.2.2.1, w0.2.2.2.2.2.2))) ∧ ((¬ w0.2.2.2.2.1.2 ≤ x1) → wp_X6_happened w0.2.2.2.2.2.1 (fun r14 => ((¬ r14 = 0) → wp_X4_empty w0.2.2.2.2.1 (fun r17 u18 => Q x2 (w0.1, w0.2.1, w0.2.2.1, w0.2.2.2.1, u18, w0.2.2.2.2.2.1, w0.2.2.2.2.2.2))) ∧ ((r14 = 0) → wp_X8_runDeedAt w0 x1 (fun r19 u20 => (((10 : Int32) ≤ r19) → ∀ z22 : Int32, z22 = x2 + (1 : Int32) → wp_X4_placeOfNextDeed u20.2.2.2.2.1 x1 (fun r23 => ∀ z25 : Int32, z25 = x3 + (1 : Int32) → (wp_X8_run_L39 Q n) r23 z22 z25 u20)) ∧ ((¬ (10 : Int32) ≤ r19) → wp_X6_remember u20.2.2.2.2.2.1 r19 x3 x1 (fun u27 => ∀ z28 : Int32, z28 = x3 + (1 : Int32) → (wp_X8_run_L39 Q n) x1 x2 z28 (u20.1, u20.2.1, u20.2.2.1, u20.2.2.2.1, u20.2.2.2.2.1, u27, u20.2.2.2.2.2.2))))))))
def wp_X8_run (v0 : CDV) (Q : Int32 → CDV → Prop) : Prop := wp_X4_faultPlace v0.2.2.2.2.1 (fun r1 => ((r1 = (-4 : Int32)) → wp_X2_record v0.2.1 v0.1 (fun u5 => wp_X6_forget v0.2.2.2.2.2.1 (fun u7 => ∃ k : Nat, wp_X8_run_L39 Q k (0 : Int32) (0 : Int32) (0 : Int32) (v0.1, u5, v0.2.2.1, v0.2.2.2.1, v0.2.2.2.2.1, u7, v0.2.2.2.2.2.2)))) ∧ ((¬ r1 = (-4 : Int32)) → Q (-2 : Int32) v0))
def wp_X8_why (v0 : CDV) (i0 : Int32) (Q : Int32 → Prop) : Prop := (i0 = (0 : Int32) → wp_X6_happened v0.2.2.2.2.2.1 (fun r2 => ((r2 = 0) → Q (-4 : Int32)) ∧ ((¬ r2 = 0) → Q v0.2.2.2.2.2.1.1))) ∧ (i0 = (1 : Int32) → wp_X6_happened v0.2.2.2.2.2.1 (fun r6 => ((r6 = 0) → Q (-4 : Int32)) ∧ ((¬ r6 = 0) → Q v0.2.2.2.2.2.1.2.1))) ∧ (i0 = (2 : Int32) → wp_X6_happened v0.2.2.2.2.2.1 (fun r10 => ((r10 = 0) → Q (-4 : Int32)) ∧ ((¬ r10 = 0) → Q v0.2.2.2.2.2.1.2.2))) ∧ (¬ i0 = (0 : Int32) → ¬ i0 = (1 : Int32) → ¬ i0 = (2 : Int32) → Q (-1 : Int32))
def wp_X8_doorOrNotFound (i0 : Int32) (Q : Int32 → Prop) : Prop := ((¬ i0 = (10 : Int32)) → Q i0) ∧ ((i0 = (10 : Int32)) → Q (-4 : Int32))
def wp_X8_door (v0 : CDV) (i0 : Int32) (i1 : Int32) (Q : Int32 → Prop) : Prop := wp_X8_isDoor i0 (fun r1 => ((¬ r1 = 0) → (i1 = (0 : Int32) → wp_X5_isOpen v0.1 i0 (fun r5 => ((r5 = 0) → Q (0 : Int32)) ∧ ((¬ r5 = 0) → Q (1 : Int32)))) ∧ (i1 = (1 : Int32) → wp_X3_lesserHall v0.1.1 i0 (fun r9 => Q r9)) ∧ (i1 = (2 : Int32) → wp_X3_greaterHall v0.1.1 i0 (fun r12 => Q r12)) ∧ (i1 = (3 : Int32) → wp_X3_cordOf v0.1.1 i0 (0 : Int32) (fun r15 => wp_X8_doorOrNotFound r15 (fun r17 => Q r17))) ∧ (i1 = (4 : Int32) → wp_X3_cordOf v0.1.1 i0 (1 : Int32) (fun r20 => wp_X8_doorOrNotFound r20 (fun r22 => Q r22))) ∧ (i1 = (5 : Int32) → wp_X3_heldBy v0.1.1 v0.1.2.2.2 (fun r25 => wp_X8_has r25 i0 (fun r27 => ((r27 = 0) → Q (0 : Int32)) ∧ ((¬ r27 = 0) → Q (1 : Int32))))) ∧ (i1 = (6 : Int32) → wp_X3_cordsTo v0.1.1 i0 (1023 : Int32) (fun r31 => Q r31)) ∧ (i1 = (7 : Int32) → wp_X3_cordsTo v0.1.1 i0 v0.1.2.2.2 (fun r34 => Q r34)) ∧ (i1 = (8 : Int32) → vp_in i0 10 ∧ (Q (v0.1.2.2.1.1 i0.toNatClampNeg))) ∧ (i1 = (9 : Int32) → vp_in i0 10 ∧ (Q (v0.1.2.2.1.2.1 i0.toNatClampNeg))) ∧ (¬ i1 = (0 : Int32) → ¬ i1 = (1 : Int32) → ¬ i1 = (2 : Int32) → ¬ i1 = (3 : Int32) → ¬ i1 = (4 : Int32) → ¬ i1 = (5 : Int32) → ¬ i1 = (6 : Int32) → ¬ i1 = (7 : Int32) → ¬ i1 = (8 : Int32) → ¬ i1 = (9 : Int32) → Q (-1 : Int32))) ∧ ((r1 = 0) → Q (-1 : Int32)))
def wp_X8_hall (v0 : CDV) (i0 : Int32) (i1 : Int32) (Q : Int32 → Prop) : Prop := wp_X8_isHall i0 (fun r1 => ((¬ r1 = 0) → (i1 = (0 : Int32) → wp_X3_doorsOf v0.1.1 i0 (fun r5 => wp_J6_bitCount_0f7a4 r5 (fun r7 => Q r7))) ∧ (i1 = (1 : Int32) → wp_X3_doorsOf v0.1.1 i0 (fun r10 => wp_J6_bitCount_0f7a4 (r10 &&& v0.1.2.2.2) (fun r12 => Q r12))) ∧ (i1 = (2 : Int32) → wp_X1_howManyIn v0.1.2.1 i0 (fun r15 => Q r15)) ∧ (i1 = (3 : Int32) → wp_X3_hallsFrom v0.1.1 i0 v0.1.2.2.2 (fun r18 => wp_J6_bitCount_0f7a4 r18 (fun r20 => Q r20))) ∧ (¬ i1 = (0 : Int32) → ¬ i1 = (1 : Int32) → ¬ i1 = (2 : Int32) → ¬ i1 = (3 : Int32) → Q (-1 : Int32))) ∧ ((r1 = 0) → Q (-1 : Int32)))
def wp_X8_guest (v0 : CDV) (i0 : Int32) (i1 : Int32) (Q : Int32 → Prop) : Prop := wp_X8_isGuest i0 (fun r1 => ((¬ r1 = 0) → (i1 = (0 : Int32) → vp_in i0 3 ∧ (Q (v0.1.2.1.1 i0.toNatClampNeg))) ∧ (i1 = (1 : Int32) → vp_in i0 3 ∧ (Q (v0.1.2.1.2.1 i0.toNatClampNeg))) ∧ (i1 = (2 : Int32) → wp_X5_howManyCouldOpen v0.1 i0 (fun r9 => Q r9)) ∧ (i1 = (3 : Int32) → vp_in i0 3 ∧ (Q (v0.1.2.1.2.2 i0.toNatClampNeg))) ∧ (¬ i1 = (0 : Int32) → ¬ i1 = (1 : Int32) → ¬ i1 = (2 : Int32) → ¬ i1 = (3 : Int32) → Q (-1 : Int32))) ∧ ((r1 = 0) → Q (-1 : Int32)))
def wp_X8_whyNot (v0 : CDV) (i0 : Int32) (Q : Int32 → Prop) : Prop := wp_X8_isDoor i0 (fun r1 => ((r1 = 0) → Q (-1 : Int32)) ∧ ((¬ r1 = 0) → wp_X5_reasonNotToOpen v0.1 i0 (fun r4 => Q r4)))
def wp_X8_mostOfAllSets_L4 (v0 : CDV) (Q : Int32 → Prop) : Nat → Int32 → Int32 → Prop
  | 0, _, _ => False
  | n + 1, x1, x2 => (((1023 : Int32) < x2) → Q x1) ∧ ((¬ (1023 : Int32) < x2) → wp_X3_canBeOpen v0.1.1 x2 (fun r2 => ((r2 = 0) → ∀ z5 : Int32, z5 = x2 + (1 : Int32) → (wp_X8_mostOfAllSets_L4 v0 Q n) x1 z5) ∧ ((¬ r2 = 0) → wp_J6_bitCount_0f7a4 x2 (fun r6 => ∀ z8 : Int32, z8 = if x1 < r6 then r6 else x1 → ∀ z9 : Int32, z9 = x2 + (1 : Int32) → (wp_X8_mostOfAllSets_L4 v0 Q n) z8 z9))))
def wp_X8_mostOfAllSets (v0 : CDV) (Q : Int32 → Prop) : Prop := ∃ k : Nat, wp_X8_mostOfAllSets_L4 v0 Q k (0 : Int32) (0 : Int32)
def wp_X8_together (v0 : CDV) (i0 : Int32) (Q : Int32 → Prop) : Prop := (i0 = (0 : Int32) → wp_X8_mostOfAllSets v0 (fun r2 => Q r2)) ∧ (i0 = (1 : Int32) → wp_X8_mostDoorByDoor v0.1.1 (0 : Int32) (0 : Int32) (fun r5 => Q r5)) ∧ (¬ i0 = (0 : Int32) → ¬ i0 = (1 : Int32) → Q (-1 : Int32))
def wp_X8_can (v0 : CDV) (i0 : Int32) (Q : Int32 → Prop) : Prop := wp_X8_isSetOfDoors i0 (fun r1 => ((¬ r1 = 0) → wp_X3_canBeOpen v0.1.1 i0 (fun r4 => ((r4 = 0) → Q (0 : Int32)) ∧ ((¬ r4 = 0) → Q (1 : Int32)))) ∧ ((r1 = 0) → Q (-1 : Int32)))
def wp_X8_deeds (v0 : CDV) (i0 : Int32) (i1 : Int32) (i2 : Int32) (Q : Int32 → CDV → Prop) : Prop := wp_X8_isGuest i0 (fun r1 => ((r1 = 0) → Q (-1 : Int32) v0) ∧ ((¬ r1 = 0) → wp_X8_isHall i1 (fun r4 => ((¬ r4 = 0) → vp_in i0 3 ∧ (wp_X8_spot v0.1.2.2.2 (v0.1.2.1.1 i0.toNatClampNeg) (fun r8 => vp_in i0 3 ∧ (∀ z11 : Int32, z11 = v0.1.2.1.2.1 i0.toNatClampNeg → (i2 = (0 : Int32) → wp_X7_fromNowOn v0.2.2.2.2.2.2 v0.1.1 r8 z11 i1 (fun r13 u14 => Q r13 (v0.1, v0.2.1, v0.2.2.1, v0.2.2.2.1, v0.2.2.2.2.1, v0.2.2.2.2.2.1, u14))) ∧ (i2 = (1 : Int32) → wp_X7_fromHallBack v0.2.2.2.2.2.2 v0.1.1 r8 z11 i1 (fun r16 u17 => Q r16 (v0.1, v0.2.1, v0.2.2.1, v0.2.2.2.1, v0.2.2.2.2.1, v0.2.2.2.2.2.1, u17))) ∧ (¬ i2 = (0 : Int32) → ¬ i2 = (1 : Int32) → Q (-1 : Int32) v0))))) ∧ ((r4 = 0) → Q (-1 : Int32) v0))))
def wp_X8_count (v0 : CDV) (i0 : Int32) (Q : Int32 → Prop) : Prop := (i0 = (0 : Int32) → Q v0.1.2.2.2) ∧ (i0 = (1 : Int32) → wp_J6_bitCount_0f7a4 v0.1.2.2.2 (fun r3 => Q r3)) ∧ (i0 = (2 : Int32) → wp_X3_cordsOf v0.1.1 v0.1.2.2.2 (fun r6 => Q r6)) ∧ (i0 = (3 : Int32) → wp_X5_shutDoors v0.1 (fun r9 => wp_X3_cordsOf v0.1.1 r9 (fun r11 => Q r11))) ∧ (i0 = (4 : Int32) → wp_X3_heldBy v0.1.1 v0.1.2.2.2 (fun r14 => wp_J6_bitCount_0f7a4 r14 (fun r16 => Q r16))) ∧ (i0 = (5 : Int32) → wp_X3_pairsOfHalls v0.1.1 v0.1.2.2.2 (fun r19 => Q r19)) ∧ (i0 = (6 : Int32) → wp_X3_pairsOfDoors v0.1.1 (fun r22 => Q r22)) ∧ (i0 = (7 : Int32) → Q v0.1.2.2.1.2.2.1) ∧ (i0 = (8 : Int32) → Q v0.1.2.2.1.2.2.2.1) ∧ (i0 = (9 : Int32) → Q v0.1.2.2.1.2.2.2.2.1) ∧ (i0 = (10 : Int32) → Q v0.1.2.2.1.2.2.2.2.2.1) ∧ (i0 = (11 : Int32) → Q v0.1.2.2.1.2.2.2.2.2.2) ∧ (i0 = (12 : Int32) → Q v0.1.1.2.2.2.2.2) ∧ (i0 = (13 : Int32) → Q v0.2.2.2.2.1.2) ∧ (i0 = (14 : Int32) → Q v0.2.1.2.2) ∧ (¬ i0 = (0 : Int32) → ¬ i0 = (1 : Int32) → ¬ i0 = (2 : Int32) → ¬ i0 = (3 : Int32) → ¬ i0 = (4 : Int32) → ¬ i0 = (5 : Int32) → ¬ i0 = (6 : Int32) → ¬ i0 = (7 : Int32) → ¬ i0 = (8 : Int32) → ¬ i0 = (9 : Int32) → ¬ i0 = (10 : Int32) → ¬ i0 = (11 : Int32) → ¬ i0 = (12 : Int32) → ¬ i0 = (13 : Int32) → ¬ i0 = (14 : Int32) → Q (-1 : Int32))
def wp_X8_tightness (v0 : CDV) (Q : UInt64 → Prop) : Prop := wp_X3_cordsOf v0.1.1 (1023 : Int32) (fun r1 => ((¬ r1 = 0) → wp_X3_cordsOf v0.1.1 v0.1.2.2.2 (fun r4 => isNaN64 (FP.ddiv (FP.i2d r4) (FP.i2d r1)) = false ∧ (Q (FP.ddiv (FP.i2d r4) (FP.i2d r1))))) ∧ ((r1 = 0) → Q (0 : UInt64)))
def wp_X8_ifOpened_B80 (v0 : CDV) (x2 : Int32) (x3 : Int32) (x5 : Int32) (t0 : Int32) (Q : Int32 → Prop) : Prop := (x2 = (0 : Int32) → Q t0) ∧ (x2 = (1 : Int32) → wp_J6_bitCount_0f7a4 (x3 &&& (x5 ^^^ (-1 : Int32))) (fun r16 => Q r16)) ∧ (x2 = (2 : Int32) → wp_J6_bitCount_0f7a4 (x5 &&& (t0 ^^^ (-1 : Int32))) (fun r19 => Q r19)) ∧ (¬ x2 = (0 : Int32) → ¬ x2 = (1 : Int32) → ¬ x2 = (2 : Int32) → Q (-1 : Int32))
def wp_X8_ifOpened_B56 (v0 : CDV) (x1 : Int32) (x2 : Int32) (x3 : Int32) (x4 : Int32) (t0 : Int32) (Q : Int32 → Prop) : Prop := ((x4 = 0) → wp_X3_afterDrafts v0.1.1 t0 x1 (fun r12 => wp_X8_ifOpened_B80 v0 x2 x3 t0 r12 Q)) ∧ ((¬ x4 = 0) → wp_X8_ifOpened_B80 v0 x2 x3 t0 x3 Q)
def wp_X8_ifOpened_B33 (v0 : CDV) (x1 : Int32) (x2 : Int32) (x3 : Int32) (t0 : Int32) (Q : Int32 → Prop) : Prop := ((t0 = 0) → wp_X3_afterCords v0.1.1 x3 x1 (fun r9 => wp_X8_ifOpened_B56 v0 x1 x2 x3 t0 r9 Q)) ∧ ((¬ t0 = 0) → wp_X8_ifOpened_B56 v0 x1 x2 x3 t0 x3 Q)
def wp_X8_ifOpened (v0 : CDV) (i0 : Int32) (i1 : Int32) (Q : Int32 → Prop) : Prop := wp_X8_isDoor i0 (fun r1 => ((¬ r1 = 0) → ∀ z4 : Int32, z4 = v0.1.2.2.2 → wp_X5_reasonNotToOpen v0.1 i0 (fun r5 => ((r5 = 0) → wp_X8_ifOpened_B33 v0 i0 i1 z4 (0 : Int32) Q) ∧ ((¬ r5 = 0) → wp_X8_ifOpened_B33 v0 i0 i1 z4 (1 : Int32) Q))) ∧ ((r1 = 0) → Q (-1 : Int32)))
def wp_X8_undo (v0 : CDV) (Q : Int32 → CDV → Prop) : Prop := ((¬ v0.2.1.2.2 = 0) → wp_X2_takeBack v0.2.1 v0.1 (fun u3 => Q u3.1.2.2 (u3.2, u3.1, v0.2.2.1, v0.2.2.2.1, v0.2.2.2.2.1, v0.2.2.2.2.2.1, v0.2.2.2.2.2.2))) ∧ ((v0.2.1.2.2 = 0) → Q (-2 : Int32) v0)
def wp_X8_save (v0 : CDV) (Q : Int32 → CDV → Prop) : Prop := wp_X5_copy v0.2.2.1 v0.1 (fun u2 => Q v0.1.2.2.2 (v0.1, v0.2.1, u2, (1 : Int32), v0.2.2.2.2.1, v0.2.2.2.2.2.1, v0.2.2.2.2.2.2))
def wp_X8_restore (v0 : CDV) (Q : Int32 → CDV → Prop) : Prop := ((¬ v0.2.2.2.1 = 0) → wp_X2_record v0.2.1 v0.1 (fun u3 => wp_X5_copy v0.1 v0.2.2.1 (fun u5 => Q u5.2.2.2 (u5, u3, v0.2.2.1, v0.2.2.2.1, v0.2.2.2.2.1, v0.2.2.2.2.2.1, v0.2.2.2.2.2.2)))) ∧ ((v0.2.2.2.1 = 0) → Q (-2 : Int32) v0)
def wp_X9_lay (v0 : ModV) (i0 : Int32) (i1 : Int32) (i2 : Int32) (Q : ModV → Prop) : Prop := vp_in (((6 : Int32) + ((7 : Int32) * i0)) + i1) 85 ∧ ∀ g2 : Nat → Int32, g2 = upd v0.1 (((6 : Int32) + ((7 : Int32) * i0)) + i1).toNatClampNeg i2 → Q (g2, v0.2.1, v0.2.2.1, v0.2.2.2.1, v0.2.2.2.2.1, v0.2.2.2.2.2.1, v0.2.2.2.2.2.2.1, v0.2.2.2.2.2.2.2.1, v0.2.2.2.2.2.2.2.2.1, v0.2.2.2.2.2.2.2.2.2.1, v0.2.2.2.2.2.2.2.2.2.2.1, v0.2.2.2.2.2.2.2.2.2.2.2.1, v0.2.2.2.2.2.2.2.2.2.2.2.2.1, v0.2.2.2.2.2.2.2.2.2.2.2.2.2.1, v0.2.2.2.2.2.2.2.2.2.2.2.2.2.2.1, v0.2.2.2.2.2.2.2.2.2.2.2.2.2.2.2.1, v0.2.2.2.2.2.2.2.2.2.2.2.2.2.2.2.2)
def wp_X9_in (i0 : Int32) (i1 : Int32) (i2 : Int32) (Q : Int32 → Prop) : Prop := ((i0 < i1) → Q (0 : Int32)) ∧ ((¬ i0 < i1) → ((i2 < i0) → Q (0 : Int32)) ∧ ((¬ i2 < i0) → Q (1 : Int32)))
def wp_X9_isDoor (i0 : Int32) (Q : Int32 → Prop) : Prop := wp_X9_in i0 (0 : Int32) (9 : Int32) (fun r1 => Q r1)
def wp_X9_isHall (i0 : Int32) (Q : Int32 → Prop) : Prop := wp_X9_in i0 (0 : Int32) (5 : Int32) (fun r1 => Q r1)
def wp_X9_isGuest (i0 : Int32) (Q : Int32 → Prop) : Prop := wp_X9_in i0 (0 : Int32) (2 : Int32) (fun r1 => Q r1)
def wp_X9_of (v0 : ModV) (i0 : Int32) (i1 : Int32) (Q : Int32 → Prop) : Prop := vp_in (((6 : Int32) + ((7 : Int32) * i0)) + i1) 85 ∧ (Q (v0.1 (((6 : Int32) + ((7 : Int32) * i0)) + i1).toNatClampNeg))
def wp_X9_ofGuest (v0 : ModV) (i0 : Int32) (i1 : Int32) (Q : Int32 → Prop) : Prop := vp_in (((76 : Int32) + ((3 : Int32) * i0)) + i1) 85 ∧ (Q (v0.1 (((76 : Int32) + ((3 : Int32) * i0)) + i1).toNatClampNeg))
def wp_X9_isOpen (v0 : ModV) (i0 : Int32) (Q : Int32 → Prop) : Prop := wp_X9_of v0 i0 (0 : Int32) (fun r1 => ((¬ r1 = (1 : Int32)) → Q (0 : Int32)) ∧ ((r1 = (1 : Int32)) → Q (1 : Int32)))
def wp_X9_joins (v0 : ModV) (i0 : Int32) (i1 : Int32) (Q : Int32 → Prop) : Prop := wp_X9_of v0 i0 (1 : Int32) (fun r1 => ((r1 = i1) → Q (1 : Int32)) ∧ ((¬ r1 = i1) → wp_X9_of v0 i0 (2 : Int32) (fun r4 => ((¬ r4 = i1) → Q (0 : Int32)) ∧ ((r4 = i1) → Q (1 : Int32)))))
def wp_X9_goesTo (v0 : ModV) (i0 : Int32) (i1 : Int32) (Q : Int32 → Prop) : Prop := wp_X9_of v0 i0 (3 : Int32) (fun r1 => ((r1 = i1) → Q (1 : Int32)) ∧ ((¬ r1 = i1) → wp_X9_of v0 i0 (4 : Int32) (fun r4 => ((¬ r4 = i1) → Q (0 : Int32)) ∧ ((r4 = i1) → Q (1 : Int32)))))
def wp_X9_copyState_L3 (N0 : Nat) (N1 : Nat) (v0 : (Nat → Int32)) (x1 : Int32) (x3 : Int32) (Q : (Nat → Int32) → Prop) : Nat → Int32 → (Nat → Int32) → Prop
  | 0, _, _ => False
  | n + 1, x4, w1 => (((85 : Int32) ≤ x4) → Q w1) ∧ ((¬ (85 : Int32) ≤ x4) → vp_in (x1 + x4) N0 ∧ (vp_in (x3 + x4) N1 ∧ ∀ g4 : Nat → Int32, g4 = upd w1 (x3 + x4).toNatClampNeg (v0 (x1 + x4).toNatClampNeg) → ∀ z5 : Int32, z5 = x4 + (1 : Int32) → (wp_X9_copyState_L3 N0 N1 v0 x1 x3 Q n) z5 g4))
def wp_X9_copyState (N0 : Nat) (N1 : Nat) (v0 : (Nat → Int32)) (v1 : (Nat → Int32)) (i0 : Int32) (i1 : Int32) (Q : (Nat → Int32) → Prop) : Prop := ∃ k : Nat, wp_X9_copyState_L3 N0 N1 v0 i0 i1 Q k (0 : Int32) v1
def wp_X9_record_B48 (w0 : ModV) (Q : ModV → Prop) : Prop := wp_X9_copyState 85 340 w0.1 w0.2.2.1 (0 : Int32) ((85 : Int32) * w0.2.2.2.1) (fun u3 => ∀ z4 : Int32, z4 = w0.2.2.2.1 + (1 : Int32) → Q (w0.1, w0.2.1, u3, z4, w0.2.2.2.2.1, w0.2.2.2.2.2.1, w0.2.2.2.2.2.2.1, w0.2.2.2.2.2.2.2.1, w0.2.2.2.2.2.2.2.2.1, w0.2.2.2.2.2.2.2.2.2.1, w0.2.2.2.2.2.2.2.2.2.2.1, w0.2.2.2.2.2.2.2.2.2.2.2.1, w0.2.2.2.2.2.2.2.2.2.2.2.2.1, w0.2.2.2.2.2.2.2.2.2.2.2.2.2.1, w0.2.2.2.2.2.2.2.2.2.2.2.2.2.2.1, w0.2.2.2.2.2.2.2.2.2.2.2.2.2.2.2.1, w0.2.2.2.2.2.2.2.2.2.2.2.2.2.2.2.2))
def wp_X9_record_L10 (Q : ModV → Prop) : Nat → Int32 → ModV → Prop
  | 0, _, _ => False
  | n + 1, x1, w0 => (((255 : Int32) ≤ x1) → ∀ z6 : Int32, z6 = w0.2.2.2.1 - (1 : Int32) → wp_X9_record_B48 (w0.1, w0.2.1, w0.2.2.1, z6, w0.2.2.2.2.1, w0.2.2.2.2.2.1, w0.2.2.2.2.2.2.1, w0.2.2.2.2.2.2.2.1, w0.2.2.2.2.2.2.2.2.1, w0.2.2.2.2.2.2.2.2.2.1, w0.2.2.2.2.2.2.2.2.2.2.1, w0.2.2.2.2.2.2.2.2.2.2.2.1, w0.2.2.2.2.2.2.2.2.2.2.2.2.1, w0.2.2.2.2.2.2.2.2.2.2.2.2.2.1, w0.2.2.2.2.2.2.2.2.2.2.2.2.2.2.1, w0.2.2.2.2.2.2.2.2.2.2.2.2.2.2.2.1, w0.2.2.2.2.2.2.2.2.2.2.2.2.2.2.2.2) Q) ∧ ((¬ (255 : Int32) ≤ x1) → vp_in (x1 + (85 : Int32)) 340 ∧ (vp_in x1 340 ∧ ∀ g9 : Nat → Int32, g9 = upd w0.2.2.1 x1.toNatClampNeg (w0.2.2.1 (x1 + (85 : Int32)).toNatClampNeg) → ∀ z10 : Int32, z10 = x1 + (1 : Int32) → (wp_X9_record_L10 Q n) z10 (w0.1, w0.2.1, g9, w0.2.2.2.1, w0.2.2.2.2.1, w0.2.2.2.2.2.1, w0.2.2.2.2.2.2.1, w0.2.2.2.2.2.2.2.1, w0.2.2.2.2.2.2.2.2.1, w0.2.2.2.2.2.2.2.2.2.1, w0.2.2.2.2.2.2.2.2.2.2.1, w0.2.2.2.2.2.2.2.2.2.2.2.1, w0.2.2.2.2.2.2.2.2.2.2.2.2.1, w0.2.2.2.2.2.2.2.2.2.2.2.2.2.1, w0.2.2.2.2.2.2.2.2.2.2.2.2.2.2.1, w0.2.2.2.2.2.2.2.2.2.2.2.2.2.2.2.1, w0.2.2.2.2.2.2.2.2.2.2.2.2.2.2.2.2)))
def wp_X9_record (v0 : ModV) (Q : ModV → Prop) : Prop := ((¬ v0.2.2.2.1 = (4 : Int32)) → wp_X9_record_B48 v0 Q) ∧ ((v0.2.2.2.1 = (4 : Int32)) → ∃ k : Nat, wp_X9_record_L10 Q k (0 : Int32) v0)
def wp_X9_undo (v0 : ModV) (Q : Int32 → ModV → Prop) : Prop := ((¬ v0.2.2.2.1 = 0) → ∀ z2 : Int32, z2 = v0.2.2.2.1 - (1 : Int32) → wp_X9_copyState 340 85 v0.2.2.1 v0.1 ((85 : Int32) * z2) (0 : Int32) (fun u4 => Q z2 (u4, v0.2.1, v0.2.2.1, z2, v0.2.2.2.2.1, v0.2.2.2.2.2.1, v0.2.2.2.2.2.2.1, v0.2.2.2.2.2.2.2.1, v0.2.2.2.2.2.2.2.2.1, v0.2.2.2.2.2.2.2.2.2.1, v0.2.2.2.2.2.2.2.2.2.2.1, v0.2.2.2.2.2.2.2.2.2.2.2.1, v0.2.2.2.2.2.2.2.2.2.2.2.2.1, v0.2.2.2.2.2.2.2.2.2.2.2.2.2.1, v0.2.2.2.2.2.2.2.2.2.2.2.2.2.2.1, v0.2.2.2.2.2.2.2.2.2.2.2.2.2.2.2.1, v0.2.2.2.2.2.2.2.2.2.2.2.2.2.2.2.2))) ∧ ((v0.2.2.2.1 = 0) → Q (-2 : Int32) v0)
def wp_X9_openSet_L4 (v0 : ModV) (Q : Int32 → Prop) : Nat → Int32 → Int32 → Prop
  | 0, _, _ => False
  | n + 1, x1, x2 => (((10 : Int32) ≤ x2) → Q x1) ∧ ((¬ (10 : Int32) ≤ x2) → wp_X9_of v0 x2 (0 : Int32) (fun r2 => ∀ z4 : Int32, z4 = x1 ||| (r2 <<< (x2 &&& 31)) → ∀ z5 : Int32, z5 = x2 + (1 : Int32) → (wp_X9_openSet_L4 v0 Q n) z4 z5))
def wp_X9_openSet (v0 : ModV) (Q : Int32 → Prop) : Prop := ∃ k : Nat, wp_X9_openSet_L4 v0 Q k (0 : Int32) (0 : Int32)
def wp_X9_save (v0 : ModV) (Q : Int32 → ModV → Prop) : Prop := wp_X9_copyState 85 85 v0.1 v0.2.2.2.2.1 (0 : Int32) (0 : Int32) (fun u2 => wp_X9_openSet (v0.1, v0.2.1, v0.2.2.1, v0.2.2.2.1, u2, (1 : Int32), v0.2.2.2.2.2.2.1, v0.2.2.2.2.2.2.2.1, v0.2.2.2.2.2.2.2.2.1, v0.2.2.2.2.2.2.2.2.2.1, v0.2.2.2.2.2.2.2.2.2.2.1, v0.2.2.2.2.2.2.2.2.2.2.2.1, v0.2.2.2.2.2.2.2.2.2.2.2.2.1, v0.2.2.2.2.2.2.2.2.2.2.2.2.2.1, v0.2.2.2.2.2.2.2.2.2.2.2.2.2.2.1, v0.2.2.2.2.2.2.2.2.2.2.2.2.2.2.2.1, v0.2.2.2.2.2.2.2.2.2.2.2.2.2.2.2.2) (fun r3 => Q r3 (v0.1, v0.2.1, v0.2.2.1, v0.2.2.2.1, u2, (1 : Int32), v0.2.2.2.2.2.2.1, v0.2.2.2.2.2.2.2.1, v0.2.2.2.2.2.2.2.2.1, v0.2.2.2.2.2.2.2.2.2.1, v0.2.2.2.2.2.2.2.2.2.2.1, v0.2.2.2.2.2.2.2.2.2.2.2.1, v0.2.2.2.2.2.2.2.2.2.2.2.2.1, v0.2.2.2.2.2.2.2.2.2.2.2.2.2.1, v0.2.2.2.2.2.2.2.2.2.2.2.2.2.2.1, v0.2.2.2.2.2.2.2.2.2.2.2.2.2.2.2.1, v0.2.2.2.2.2.2.2.2.2.2.2.2.2.2.2.2)))
def wp_X9_restore (v0 : ModV) (Q : Int32 → ModV → Prop) : Prop := ((¬ v0.2.2.2.2.2.1 = 0) → wp_X9_record v0 (fun u3 => wp_X9_copyState 85 85 u3.2.2.2.2.1 u3.1 (0 : Int32) (0 : Int32) (fun u5 => wp_X9_openSet (u5, u3.2.1, u3.2.2.1, u3.2.2.2.1, u3.2.2.2.2.1, u3.2.2.2.2.2.1, u3.2.2.2.2.2.2.1, u3.2.2.2.2.2.2.2.1, u3.2.2.2.2.2.2.2.2.1, u3.2.2.2.2.2.2.2.2.2.1, u3.2.2.2.2.2.2.2.2.2.2.1, u3.2.2.2.2.2.2.2.2.2.2.2.1, u3.2.2.2.2.2.2.2.2.2.2.2.2.1, u3.2.2.2.2.2.2.2.2.2.2.2.2.2.1, u3.2.2.2.2.2.2.2.2.2.2.2.2.2.2.1, u3.2.2.2.2.2.2.2.2.2.2.2.2.2.2.2.1, u3.2.2.2.2.2.2.2.2.2.2.2.2.2.2.2.2) (fun r6 => Q r6 (u5, u3.2.1, u3.2.2.1, u3.2.2.2.1, u3.2.2.2.2.1, u3.2.2.2.2.2.1, u3.2.2.2.2.2.2.1, u3.2.2.2.2.2.2.2.1, u3.2.2.2.2.2.2.2.2.1, u3.2.2.2.2.2.2.2.2.2.1, u3.2.2.2.2.2.2.2.2.2.2.1, u3.2.2.2.2.2.2.2.2.2.2.2.1, u3.2.2.2.2.2.2.2.2.2.2.2.2.1, u3.2.2.2.2.2.2.2.2.2.2.2.2.2.1, u3.2.2.2.2.2.2.2.2.2.2.2.2.2.2.1, u3.2.2.2.2.2.2.2.2.2.2.2.2.2.2.2.1, u3.2.2.2.2.2.2.2.2.2.2.2.2.2.2.2.2))))) ∧ ((v0.2.2.2.2.2.1 = 0) → Q (-2 : Int32) v0)
def wp_X9_cordsTo_L5 (v0 : ModV) (x1 : Int32) (x2 : Int32) (Q : Int32 → Prop) : Nat → Int32 → Int32 → Prop
  | 0, _, _ => False
  | n + 1, x3, x4 => (((10 : Int32) ≤ x4) → Q x3) ∧ ((¬ (10 : Int32) ≤ x4) → wp_X9_goesTo v0 x4 x1 (fun r2 => ((r2 = 0) → ∀ z5 : Int32, z5 = x3 + (0 : Int32) → ∀ z6 : Int32, z6 = x4 + (1 : Int32) → (wp_X9_cordsTo_L5 v0 x1 x2 Q n) z5 z6) ∧ ((¬ r2 = 0) → ((x2 = 0) → ∀ z8 : Int32, z8 = x3 + (1 : Int32) → ∀ z9 : Int32, z9 = x4 + (1 : Int32) → (wp_X9_cordsTo_L5 v0 x1 x2 Q n) z8 z9) ∧ ((¬ x2 = 0) → wp_X9_isOpen v0 x4 (fun r10 => ((r10 = 0) → ∀ z13 : Int32, z13 = x3 + (0 : Int32) → ∀ z14 : Int32, z14 = x4 + (1 : Int32) → (wp_X9_cordsTo_L5 v0 x1 x2 Q n) z13 z14) ∧ ((¬ r10 = 0) → ∀ z15 : Int32, z15 = x3 + (1 : Int32) → ∀ z16 : Int32, z16 = x4 + (1 : Int32) → (wp_X9_cordsTo_L5 v0 x1 x2 Q n) z15 z16))))))
def wp_X9_cordsTo (v0 : ModV) (i0 : Int32) (i1 : Int32) (Q : Int32 → Prop) : Prop := ∃ k : Nat, wp_X9_cordsTo_L5 v0 i0 i1 Q k (0 : Int32) (0 : Int32)
def wp_X9_reason (v0 : ModV) (i0 : Int32) (Q : Int32 → Prop) : Prop := wp_X9_isOpen v0 i0 (fun r1 => ((r1 = 0) → wp_X9_cordsTo v0 i0 (1 : Int32) (fun r4 => ((r4 ≤ 0) → Q (0 : Int32)) ∧ ((¬ r4 ≤ 0) → Q (2 : Int32)))) ∧ ((¬ r1 = 0) → Q (1 : Int32)))
def wp_X9_openIn_L4 (v0 : ModV) (x1 : Int32) (Q : Int32 → Prop) : Nat → Int32 → Int32 → Prop
  | 0, _, _ => False
  | n + 1, x2, x3 => (((10 : Int32) ≤ x3) → Q x2) ∧ ((¬ (10 : Int32) ≤ x3) → wp_X9_isOpen v0 x3 (fun r2 => ((r2 = 0) → ∀ z5 : Int32, z5 = x2 + (0 : Int32) → ∀ z6 : Int32, z6 = x3 + (1 : Int32) → (wp_X9_openIn_L4 v0 x1 Q n) z5 z6) ∧ ((¬ r2 = 0) → wp_X9_joins v0 x3 x1 (fun r7 => ((r7 = 0) → ∀ z10 : Int32, z10 = x2 + (0 : Int32) → ∀ z11 : Int32, z11 = x3 + (1 : Int32) → (wp_X9_openIn_L4 v0 x1 Q n) z10 z11) ∧ ((¬ r7 = 0) → ∀ z12 : Int32, z12 = x2 + (1 : Int32) → ∀ z13 : Int32, z13 = x3 + (1 : Int32) → (wp_X9_openIn_L4 v0 x1 Q n) z12 z13)))))
def wp_X9_openIn (v0 : ModV) (i0 : Int32) (Q : Int32 → Prop) : Prop := ∃ k : Nat, wp_X9_openIn_L4 v0 i0 Q k (0 : Int32) (0 : Int32)
def wp_X9_shuts (v0 : ModV) (i0 : Int32) (i1 : Int32) (Q : ModV → Prop) : Prop := wp_X9_lay v0 i0 (0 : Int32) (0 : Int32) (fun u2 => wp_X9_of u2 i0 (6 : Int32) (fun r3 => wp_X9_lay u2 i0 (6 : Int32) (r3 + (1 : Int32)) (fun u6 => vp_in i1 85 ∧ (vp_in i1 85 ∧ ∀ g9 : Nat → Int32, g9 = upd u6.1 i1.toNatClampNeg ((u6.1 i1.toNatClampNeg) + (1 : Int32)) → Q (g9, u6.2.1, u6.2.2.1, u6.2.2.2.1, u6.2.2.2.2.1, u6.2.2.2.2.2.1, u6.2.2.2.2.2.2.1, u6.2.2.2.2.2.2.2.1, u6.2.2.2.2.2.2.2.2.1, u6.2.2.2.2.2.2.2.2.2.1, u6.2.2.2.2.2.2.2.2.2.2.1, u6.2.2.2.2.2.2.2.2.2.2.2.1, u6.2.2.2.2.2.2.2.2.2.2.2.2.1, u6.2.2.2.2.2.2.2.2.2.2.2.2.2.1, u6.2.2.2.2.2.2.2.2.2.2.2.2.2.2.1, u6.2.2.2.2.2.2.2.2.2.2.2.2.2.2.2.1, u6.2.2.2.2.2.2.2.2.2.2.2.2.2.2.2.2)))))
def wp_X9_lowestIn_L7 (v0 : ModV) (x1 : Int32) (x2 : Int32) (Q : Int32 → Prop) : Nat → Int32 → Int32 → Prop
  | 0, _, _ => False
  | n + 1, x3, x4 => ((x4 < 0) → Q x3) ∧ ((¬ x4 < 0) → ((x4 = x2) → ∀ z3 : Int32, z3 = x4 + (-1 : Int32) → (wp_X9_lowestIn_L7 v0 x1 x2 Q n) x3 z3) ∧ ((¬ x4 = x2) → wp_X9_isOpen v0 x4 (fun r4 => ((r4 = 0) → ∀ z7 : Int32, z7 = x4 + (-1 : Int32) → (wp_X9_lowestIn_L7 v0 x1 x2 Q n) x3 z7) ∧ ((¬ r4 = 0) → wp_X9_joins v0 x4 x1 (fun r8 => ((r8 = 0) → ∀ z11 : Int32, z11 = x4 + (-1 : Int32) → (wp_X9_lowestIn_L7 v0 x1 x2 Q n) x3 z11) ∧ ((¬ r8 = 0) → ∀ z12 : Int32, z12 = x4 + (-1 : Int32) → (wp_X9_lowestIn_L7 v0 x1 x2 Q n) x4 z12))))))
def wp_X9_lowestIn (v0 : ModV) (i0 : Int32) (i1 : Int32) (Q : Int32 → Prop) : Prop := ∃ k : Nat, wp_X9_lowestIn_L7 v0 i0 i1 Q k (-4 : Int32) (9 : Int32)
def wp_X9_opens_L81 (x1 : Int32) (x3 : Int32) (Q : Int32 → ModV → Prop) (K75 : Int32 → Int32 → ModV → Prop) : Nat → Int32 → ModV → Prop
  | 0, _, _ => False
  | n + 1, x2, w0 => wp_X9_openIn w0 x3 (fun r12 => vp_in (0 : Int32) 85 ∧ (((r12 ≤ (w0.1 (0 : Int32).toNatClampNeg)) → ∀ z16 : Int32, z16 = x3 + (1 : Int32) → K75 x2 z16 w0) ∧ ((¬ r12 ≤ (w0.1 (0 : Int32).toNatClampNeg)) → wp_X9_lowestIn w0 x3 x1 (fun r17 => wp_X9_shuts w0 r17 (4 : Int32) (fun u20 => ∀ z21 : Int32, z21 = x2 + (1 : Int32) → (wp_X9_opens_L81 x1 x3 Q K75 n) z21 u20)))))
def wp_X9_opens_L75 (x1 : Int32) (Q : Int32 → ModV → Prop) : Nat → Int32 → Int32 → ModV → Prop
  | 0, _, _, _ => False
  | n + 1, x2, x3, w0 => (((6 : Int32) ≤ x3) → Q x2 w0) ∧ ((¬ (6 : Int32) ≤ x3) → ∃ k : Nat, wp_X9_opens_L81 x1 x3 Q (wp_X9_opens_L75 x1 Q n) k x2 w0)
def wp_X9_opens_L35 (x1 : Int32) (Q : Int32 → ModV → Prop) : Nat → Int32 → Int32 → ModV → Prop
  | 0, _, _, _ => False
  | n + 1, x2, x3, w0 => (((10 : Int32) ≤ x3) → ∃ k : Nat, wp_X9_opens_L75 x1 Q k x2 (0 : Int32) w0) ∧ ((¬ (10 : Int32) ≤ x3) → wp_X9_goesTo w0 x1 x3 (fun r22 => ((r22 = 0) → ∀ z25 : Int32, z25 = x3 + (1 : Int32) → (wp_X9_opens_L35 x1 Q n) x2 z25 w0) ∧ ((¬ r22 = 0) → wp_X9_isOpen w0 x3 (fun r26 => ((r26 = 0) → ∀ z29 : Int32, z29 = x3 + (1 : Int32) → (wp_X9_opens_L35 x1 Q n) x2 z29 w0) ∧ ((¬ r26 = 0) → wp_X9_shuts w0 x3 (3 : Int32) (fun u31 => ∀ z32 : Int32, z32 = x2 + (1 : Int32) → ∀ z33 : Int32, z33 = x3 + (1 : Int32) → (wp_X9_opens_L35 x1 Q n) z32 z33 u31))))))
def wp_X9_opens (v0 : ModV) (i0 : Int32) (Q : Int32 → ModV → Prop) : Prop := wp_X9_lay v0 i0 (0 : Int32) (1 : Int32) (fun u2 => wp_X9_of u2 i0 (5 : Int32) (fun r3 => wp_X9_lay u2 i0 (5 : Int32) (r3 + (1 : Int32)) (fun u6 => vp_in (1 : Int32) 85 ∧ (vp_in (1 : Int32) 85 ∧ ∀ g9 : Nat → Int32, g9 = upd u6.1 (1 : Int32).toNatClampNeg ((u6.1 (1 : Int32).toNatClampNeg) + (1 : Int32)) → ∃ k : Nat, wp_X9_opens_L35 i0 Q k (0 : Int32) (0 : Int32) (g9, u6.2.1, u6.2.2.1, u6.2.2.2.1, u6.2.2.2.2.1, u6.2.2.2.2.2.1, u6.2.2.2.2.2.2.1, u6.2.2.2.2.2.2.2.1, u6.2.2.2.2.2.2.2.2.1, u6.2.2.2.2.2.2.2.2.2.1, u6.2.2.2.2.2.2.2.2.2.2.1, u6.2.2.2.2.2.2.2.2.2.2.2.1, u6.2.2.2.2.2.2.2.2.2.2.2.2.1, u6.2.2.2.2.2.2.2.2.2.2.2.2.2.1, u6.2.2.2.2.2.2.2.2.2.2.2.2.2.2.1, u6.2.2.2.2.2.2.2.2.2.2.2.2.2.2.2.1, u6.2.2.2.2.2.2.2.2.2.2.2.2.2.2.2.2)))))
def wp_X9_refuse (v0 : ModV) (i0 : Int32) (Q : Int32 → ModV → Prop) : Prop := vp_in (5 : Int32) 85 ∧ (vp_in (5 : Int32) 85 ∧ ∀ g3 : Nat → Int32, g3 = upd v0.1 (5 : Int32).toNatClampNeg ((v0.1 (5 : Int32).toNatClampNeg) + (1 : Int32)) → Q i0 (g3, v0.2.1, v0.2.2.1, v0.2.2.2.1, v0.2.2.2.2.1, v0.2.2.2.2.2.1, v0.2.2.2.2.2.2.1, v0.2.2.2.2.2.2.2.1, v0.2.2.2.2.2.2.2.2.1, v0.2.2.2.2.2.2.2.2.2.1, v0.2.2.2.2.2.2.2.2.2.2.1, v0.2.2.2.2.2.2.2.2.2.2.2.1, v0.2.2.2.2.2.2.2.2.2.2.2.2.1, v0.2.2.2.2.2.2.2.2.2.2.2.2.2.1, v0.2.2.2.2.2.2.2.2.2.2.2.2.2.2.1, v0.2.2.2.2.2.2.2.2.2.2.2.2.2.2.2.1, v0.2.2.2.2.2.2.2.2.2.2.2.2.2.2.2.2))
def wp_X9_openNow (v0 : ModV) (i0 : Int32) (Q : Int32 → ModV → Prop) : Prop := wp_X9_reason v0 i0 (fun r1 => ((r1 ≤ 0) → wp_X9_opens v0 i0 (fun r4 u5 => Q ((10 : Int32) + r4) u5)) ∧ ((¬ r1 ≤ 0) → wp_X9_refuse v0 r1 (fun r6 u7 => Q r6 u7)))
def wp_X9_shutNow (v0 : ModV) (i0 : Int32) (Q : Int32 → ModV → Prop) : Prop := wp_X9_isOpen v0 i0 (fun r1 => ((¬ r1 = 0) → wp_X9_shuts v0 i0 (2 : Int32) (fun u5 => Q (10 : Int32) u5)) ∧ ((r1 = 0) → wp_X9_refuse v0 (3 : Int32) (fun r6 u7 => Q r6 u7)))
def wp_X9_isAt (v0 : ModV) (i0 : Int32) (i1 : Int32) (Q : Int32 → Prop) : Prop := wp_X9_ofGuest v0 i0 (0 : Int32) (fun r1 => wp_X9_joins v0 i1 r1 (fun r3 => Q r3))
def wp_X9_hasKey (v0 : ModV) (i0 : Int32) (i1 : Int32) (Q : Int32 → Prop) : Prop := wp_X9_ofGuest v0 i0 (1 : Int32) (fun r1 => ((¬ ((r1 >>> (i1 &&& 31)) &&& (1 : Int32)) = (1 : Int32)) → Q (0 : Int32)) ∧ ((((r1 >>> (i1 &&& 31)) &&& (1 : Int32)) = (1 : Int32)) → Q (1 : Int32)))
def wp_X9_guestOpensNow (v0 : ModV) (i0 : Int32) (i1 : Int32) (Q : Int32 → ModV → Prop) : Prop := wp_X9_isAt v0 i0 i1 (fun r1 => ((¬ r1 = 0) → wp_X9_hasKey v0 i0 i1 (fun r4 => ((r4 = 0) → wp_X9_refuse v0 (6 : Int32) (fun r7 u8 => Q r7 u8)) ∧ ((¬ r4 = 0) → wp_X9_openNow v0 i1 (fun r9 u10 => Q r9 u10)))) ∧ ((r1 = 0) → wp_X9_refuse v0 (5 : Int32) (fun r11 u12 => Q r11 u12)))
def wp_X9_guestShutsNow (v0 : ModV) (i0 : Int32) (i1 : Int32) (Q : Int32 → ModV → Prop) : Prop := wp_X9_isAt v0 i0 i1 (fun r1 => ((r1 = 0) → wp_X9_refuse v0 (5 : Int32) (fun r4 u5 => Q r4 u5)) ∧ ((¬ r1 = 0) → wp_X9_shutNow v0 i1 (fun r6 u7 => Q r6 u7)))
def wp_X9_across (v0 : ModV) (i0 : Int32) (i1 : Int32) (Q : Int32 → Prop) : Prop := wp_X9_of v0 i0 (1 : Int32) (fun r1 => ((¬ r1 = i1) → wp_X9_of v0 i0 (1 : Int32) (fun r4 => Q r4)) ∧ ((r1 = i1) → wp_X9_of v0 i0 (2 : Int32) (fun r6 => Q r6)))
def wp_X9_walkNow_B17 (x1 : Int32) (x2 : Int32) (w0 : ModV) (Q : Int32 → ModV → Prop) : Prop := wp_X9_isAt w0 x1 x2 (fun r4 => ((r4 = 0) → wp_X9_refuse w0 (5 : Int32) (fun r7 u8 => Q r7 u8)) ∧ ((¬ r4 = 0) → wp_X9_refuse w0 (3 : Int32) (fun r9 u10 => Q r9 u10)))
def wp_X9_walkNow (v0 : ModV) (i0 : Int32) (i1 : Int32) (Q : Int32 → ModV → Prop) : Prop := wp_X9_isAt v0 i0 i1 (fun r1 => ((r1 = 0) → wp_X9_walkNow_B17 i0 i1 v0 Q) ∧ ((¬ r1 = 0) → wp_X9_isOpen v0 i1 (fun r11 => ((¬ r11 = 0) → wp_X9_ofGuest v0 i0 (0 : Int32) (fun r14 => wp_X9_across v0 i1 r14 (fun r16 => vp_in (((76 : Int32) + ((3 : Int32) * i0)) + (0 : Int32)) 85 ∧ ∀ g19 : Nat → Int32, g19 = upd v0.1 (((76 : Int32) + ((3 : Int32) * i0)) + (0 : Int32)).toNatClampNeg r16 → vp_in (((76 : Int32) + ((3 : Int32) * i0)) + (2 : Int32)) 85 ∧ (vp_in (((76 : Int32) + ((3 : Int32) * i0)) + (2 : Int32)) 85 ∧ ∀ g22 : Nat → Int32, g22 = upd g19 (((76 : Int32) + ((3 : Int32) * i0)) + (2 : Int32)).toNatClampNeg ((g19 (((76 : Int32) + ((3 : Int32) * i0)) + (2 : Int32)).toNatClampNeg) + (1 : Int32)) → Q ((10 : Int32) + r16) (g22, v0.2.1, v0.2.2.1, v0.2.2.2.1, v0.2.2.2.2.1, v0.2.2.2.2.2.1, v0.2.2.2.2.2.2.1, v0.2.2.2.2.2.2.2.1, v0.2.2.2.2.2.2.2.2.1, v0.2.2.2.2.2.2.2.2.2.1, v0.2.2.2.2.2.2.2.2.2.2.1, v0.2.2.2.2.2.2.2.2.2.2.2.1, v0.2.2.2.2.2.2.2.2.2.2.2.2.1, v0.2.2.2.2.2.2.2.2.2.2.2.2.2.1, v0.2.2.2.2.2.2.2.2.2.2.2.2.2.2.1, v0.2.2.2.2.2.2.2.2.2.2.2.2.2.2.2.1, v0.2.2.2.2.2.2.2.2.2.2.2.2.2.2.2.2))))) ∧ ((r11 = 0) → wp_X9_walkNow_B17 i0 i1 v0 Q))))
def wp_X9_open (v0 : ModV) (i0 : Int32) (Q : Int32 → ModV → Prop) : Prop := wp_X9_isDoor i0 (fun r1 => ((¬ r1 = 0) → wp_X9_record v0 (fun u5 => wp_X9_openNow u5 i0 (fun r6 u7 => Q r6 u7))) ∧ ((r1 = 0) → Q (-1 : Int32) v0))
def wp_X9_shut (v0 : ModV) (i0 : Int32) (Q : Int32 → ModV → Prop) : Prop := wp_X9_isDoor i0 (fun r1 => ((¬ r1 = 0) → wp_X9_record v0 (fun u5 => wp_X9_shutNow u5 i0 (fun r6 u7 => Q r6 u7))) ∧ ((r1 = 0) → Q (-1 : Int32) v0))
def wp_X9_guestOpens (v0 : ModV) (i0 : Int32) (i1 : Int32) (Q : Int32 → ModV → Prop) : Prop := wp_X9_isGuest i0 (fun r1 => ((r1 = 0) → Q (-1 : Int32) v0) ∧ ((¬ r1 = 0) → wp_X9_isDoor i1 (fun r4 => ((¬ r4 = 0) → wp_X9_record v0 (fun u8 => wp_X9_guestOpensNow u8 i0 i1 (fun r9 u10 => Q r9 u10))) ∧ ((r4 = 0) → Q (-1 : Int32) v0))))
def wp_X9_guestShuts (v0 : ModV) (i0 : Int32) (i1 : Int32) (Q : Int32 → ModV → Prop) : Prop := wp_X9_isGuest i0 (fun r1 => ((r1 = 0) → Q (-1 : Int32) v0) ∧ ((¬ r1 = 0) → wp_X9_isDoor i1 (fun r4 => ((¬ r4 = 0) → wp_X9_record v0 (fun u8 => wp_X9_guestShutsNow u8 i0 i1 (fun r9 u10 => Q r9 u10))) ∧ ((r4 = 0) → Q (-1 : Int32) v0))))
def wp_X9_walk (v0 : ModV) (i0 : Int32) (i1 : Int32) (Q : Int32 → ModV → Prop) : Prop := wp_X9_isGuest i0 (fun r1 => ((r1 = 0) → Q (-1 : Int32) v0) ∧ ((¬ r1 = 0) → wp_X9_isDoor i1 (fun r4 => ((¬ r4 = 0) → wp_X9_record v0 (fun u8 => wp_X9_walkNow u8 i0 i1 (fun r9 u10 => Q r9 u10))) ∧ ((r4 = 0) → Q (-1 : Int32) v0))))
def wp_X9_cord_B82 (x1 : Int32) (x2 : Int32) (x3 : Int32) (w0 : ModV) (Q : Int32 → ModV → Prop) : Prop := ((x2 = 0) → ((¬ x3 = (10 : Int32)) → wp_X9_lay w0 x1 (3 : Int32) x3 (fun u15 => Q (10 : Int32) u15)) ∧ ((x3 = (10 : Int32)) → wp_X9_lay w0 x1 (3 : Int32) (-4 : Int32) (fun u17 => Q (10 : Int32) u17))) ∧ ((¬ x2 = 0) → ((¬ x3 = (10 : Int32)) → wp_X9_lay w0 x1 (4 : Int32) x3 (fun u20 => Q (10 : Int32) u20)) ∧ ((x3 = (10 : Int32)) → wp_X9_lay w0 x1 (4 : Int32) (-4 : Int32) (fun u22 => Q (10 : Int32) u22)))
def wp_X9_cord_B50 (x1 : Int32) (x2 : Int32) (x3 : Int32) (w0 : ModV) (Q : Int32 → ModV → Prop) : Prop := wp_X9_record w0 (fun u10 => (((10 : Int32) ≤ x3) → wp_X9_cord_B82 x1 x2 x3 u10 Q) ∧ ((¬ (10 : Int32) ≤ x3) → wp_X9_isOpen u10 x1 (fun r23 => ((r23 = 0) → wp_X9_cord_B82 x1 x2 x3 u10 Q) ∧ ((¬ r23 = 0) → wp_X9_isOpen u10 x3 (fun r26 => ((r26 = 0) → wp_X9_cord_B82 x1 x2 x3 u10 Q) ∧ ((¬ r26 = 0) → wp_X9_refuse u10 (4 : Int32) (fun r29 u30 => Q r29 u30)))))))
def wp_X9_cord_B41 (x1 : Int32) (x2 : Int32) (x3 : Int32) (t1 : Int32) (t2 : Int32) (w0 : ModV) (Q : Int32 → ModV → Prop) : Prop := wp_X9_of w0 t1 t2 (fun r32 => ((¬ r32 = x3) → wp_X9_cord_B50 x1 x2 x3 w0 Q) ∧ ((r32 = x3) → Q (-1 : Int32) w0))
def wp_X9_cord (v0 : ModV) (i0 : Int32) (i1 : Int32) (i2 : Int32) (Q : Int32 → ModV → Prop) : Prop := wp_X9_isDoor i0 (fun r1 => ((r1 = 0) → Q (-1 : Int32) v0) ∧ ((¬ r1 = 0) → wp_X9_in i2 (0 : Int32) (10 : Int32) (fun r4 => ((r4 = 0) → Q (-1 : Int32) v0) ∧ ((¬ r4 = 0) → ((¬ i2 = i0) → (((10 : Int32) ≤ i2) → wp_X9_cord_B50 i0 i1 i2 v0 Q) ∧ ((¬ (10 : Int32) ≤ i2) → ((i1 = 0) → wp_X9_cord_B41 i0 i1 i2 i0 (4 : Int32) v0 Q) ∧ ((¬ i1 = 0) → wp_X9_cord_B41 i0 i1 i2 i0 (3 : Int32) v0 Q))) ∧ ((i2 = i0) → Q (-1 : Int32) v0)))))
def wp_X9_lesserHall (v0 : ModV) (i0 : Int32) (Q : Int32 → Prop) : Prop := wp_X9_of v0 i0 (1 : Int32) (fun r1 => wp_X9_of v0 i0 (2 : Int32) (fun r3 => ((r3 ≤ r1) → wp_X9_of v0 i0 (2 : Int32) (fun r6 => Q r6)) ∧ ((¬ r3 ≤ r1) → wp_X9_of v0 i0 (1 : Int32) (fun r8 => Q r8))))
def wp_X9_greaterHall (v0 : ModV) (i0 : Int32) (Q : Int32 → Prop) : Prop := wp_X9_of v0 i0 (1 : Int32) (fun r1 => wp_X9_of v0 i0 (2 : Int32) (fun r3 => wp_X9_lesserHall v0 i0 (fun r5 => Q ((r1 + r3) - r5))))
def wp_X9_join (v0 : ModV) (i0 : Int32) (i1 : Int32) (i2 : Int32) (Q : Int32 → ModV → Prop) : Prop := wp_X9_isDoor i0 (fun r1 => ((r1 = 0) → Q (-1 : Int32) v0) ∧ ((¬ r1 = 0) → wp_X9_isHall i1 (fun r4 => ((r4 = 0) → Q (-1 : Int32) v0) ∧ ((¬ r4 = 0) → wp_X9_isHall i2 (fun r7 => ((r7 = 0) → Q (-1 : Int32) v0) ∧ ((¬ r7 = 0) → ((¬ i1 = i2) → wp_X9_isOpen v0 i0 (fun r11 => ((r11 = 0) → wp_X9_record v0 (fun u15 => wp_X9_lesserHall u15 i0 (fun r16 => wp_X9_greaterHall u15 i0 (fun r18 => ∀ z20 : Int32, z20 = ((10 : Int32) * r16) + r18 → wp_X9_lay u15 i0 (1 : Int32) i1 (fun u22 => wp_X9_lay u22 i0 (2 : Int32) i2 (fun u24 => Q z20 u24)))))) ∧ ((¬ r11 = 0) → Q (-2 : Int32) v0))) ∧ ((i1 = i2) → Q (-1 : Int32) v0)))))))
def wp_X9_keys (v0 : ModV) (i0 : Int32) (i1 : Int32) (Q : Int32 → ModV → Prop) : Prop := wp_X9_isGuest i0 (fun r1 => ((r1 = 0) → Q (-1 : Int32) v0) ∧ ((¬ r1 = 0) → wp_X9_in i1 (0 : Int32) (1023 : Int32) (fun r4 => ((¬ r4 = 0) → wp_X9_record v0 (fun u8 => wp_X9_ofGuest u8 i0 (1 : Int32) (fun r9 => vp_in (((76 : Int32) + ((3 : Int32) * i0)) + (1 : Int32)) 85 ∧ ∀ g12 : Nat → Int32, g12 = upd u8.1 (((76 : Int32) + ((3 : Int32) * i0)) + (1 : Int32)).toNatClampNeg i1 → Q r9 (g12, u8.2.1, u8.2.2.1, u8.2.2.2.1, u8.2.2.2.2.1, u8.2.2.2.2.2.1, u8.2.2.2.2.2.2.1, u8.2.2.2.2.2.2.2.1, u8.2.2.2.2.2.2.2.2.1, u8.2.2.2.2.2.2.2.2.2.1, u8.2.2.2.2.2.2.2.2.2.2.1, u8.2.2.2.2.2.2.2.2.2.2.2.1, u8.2.2.2.2.2.2.2.2.2.2.2.2.1, u8.2.2.2.2.2.2.2.2.2.2.2.2.2.1, u8.2.2.2.2.2.2.2.2.2.2.2.2.2.2.1, u8.2.2.2.2.2.2.2.2.2.2.2.2.2.2.2.1, u8.2.2.2.2.2.2.2.2.2.2.2.2.2.2.2.2)))) ∧ ((r4 = 0) → Q (-1 : Int32) v0))))
def wp_X9_draft (v0 : ModV) (i0 : Int32) (Q : Int32 → ModV → Prop) : Prop := wp_X9_in i0 (1 : Int32) (10 : Int32) (fun r1 => ((¬ r1 = 0) → wp_X9_record v0 (fun u5 => vp_in (0 : Int32) 85 ∧ (∀ z7 : Int32, z7 = u5.1 (0 : Int32).toNatClampNeg → vp_in (0 : Int32) 85 ∧ ∀ g9 : Nat → Int32, g9 = upd u5.1 (0 : Int32).toNatClampNeg i0 → Q z7 (g9, u5.2.1, u5.2.2.1, u5.2.2.2.1, u5.2.2.2.2.1, u5.2.2.2.2.2.1, u5.2.2.2.2.2.2.1, u5.2.2.2.2.2.2.2.1, u5.2.2.2.2.2.2.2.2.1, u5.2.2.2.2.2.2.2.2.2.1, u5.2.2.2.2.2.2.2.2.2.2.1, u5.2.2.2.2.2.2.2.2.2.2.2.1, u5.2.2.2.2.2.2.2.2.2.2.2.2.1, u5.2.2.2.2.2.2.2.2.2.2.2.2.2.1, u5.2.2.2.2.2.2.2.2.2.2.2.2.2.2.1, u5.2.2.2.2.2.2.2.2.2.2.2.2.2.2.2.1, u5.2.2.2.2.2.2.2.2.2.2.2.2.2.2.2.2)))) ∧ ((r1 = 0) → Q (-1 : Int32) v0))
def wp_X9_append (v0 : ModV) (i0 : Int32) (Q : Int32 → ModV → Prop) : Prop := wp_X9_in i0 (33 : Int32) (126 : Int32) (fun r1 => ((¬ r1 = 0) → ((¬ v0.2.2.2.2.2.2.2.1 = (60 : Int32)) → vp_in v0.2.2.2.2.2.2.2.1 60 ∧ ∀ g6 : Nat → Int32, g6 = upd v0.2.2.2.2.2.2.1 v0.2.2.2.2.2.2.2.1.toNatClampNeg i0 → ∀ z7 : Int32, z7 = v0.2.2.2.2.2.2.2.1 + (1 : Int32) → Q z7 (v0.1, v0.2.1, v0.2.2.1, v0.2.2.2.1, v0.2.2.2.2.1, v0.2.2.2.2.2.1, g6, z7, v0.2.2.2.2.2.2.2.2.1, v0.2.2.2.2.2.2.2.2.2.1, v0.2.2.2.2.2.2.2.2.2.2.1, v0.2.2.2.2.2.2.2.2.2.2.2.1, v0.2.2.2.2.2.2.2.2.2.2.2.2.1, v0.2.2.2.2.2.2.2.2.2.2.2.2.2.1, v0.2.2.2.2.2.2.2.2.2.2.2.2.2.2.1, v0.2.2.2.2.2.2.2.2.2.2.2.2.2.2.2.1, v0.2.2.2.2.2.2.2.2.2.2.2.2.2.2.2.2)) ∧ ((v0.2.2.2.2.2.2.2.1 = (60 : Int32)) → Q (-3 : Int32) v0)) ∧ ((r1 = 0) → Q (-1 : Int32) v0))
def wp_X9_clear (v0 : ModV) (Q : Int32 → ModV → Prop) : Prop := ∀ z1 : Int32, z1 = v0.2.2.2.2.2.2.2.1 → Q z1 (v0.1, v0.2.1, v0.2.2.1, v0.2.2.2.1, v0.2.2.2.2.1, v0.2.2.2.2.2.1, v0.2.2.2.2.2.2.1, (0 : Int32), v0.2.2.2.2.2.2.2.2.1, v0.2.2.2.2.2.2.2.2.2.1, v0.2.2.2.2.2.2.2.2.2.2.1, v0.2.2.2.2.2.2.2.2.2.2.2.1, v0.2.2.2.2.2.2.2.2.2.2.2.2.1, v0.2.2.2.2.2.2.2.2.2.2.2.2.2.1, v0.2.2.2.2.2.2.2.2.2.2.2.2.2.2.1, v0.2.2.2.2.2.2.2.2.2.2.2.2.2.2.2.1, v0.2.2.2.2.2.2.2.2.2.2.2.2.2.2.2.2)
def wp_X9_sees (v0 : ModV) (i0 : Int32) (i1 : Int32) (Q : Int32 → Prop) : Prop := ((v0.2.2.2.2.2.2.2.1 ≤ v0.2.2.2.2.2.2.2.2.2.2.2.1) → Q (0 : Int32)) ∧ ((¬ v0.2.2.2.2.2.2.2.1 ≤ v0.2.2.2.2.2.2.2.2.2.2.2.1) → vp_in v0.2.2.2.2.2.2.2.2.2.2.2.1 60 ∧ (wp_X9_in (v0.2.2.2.2.2.2.1 v0.2.2.2.2.2.2.2.2.2.2.2.1.toNatClampNeg) i0 i1 (fun r3 => ((r3 = 0) → Q (0 : Int32)) ∧ ((¬ r3 = 0) → Q (1 : Int32)))))
def wp_X9_takes (v0 : ModV) (i0 : Int32) (Q : Int32 → ModV → Prop) : Prop := wp_X9_sees v0 i0 i0 (fun r1 => ((r1 = 0) → ∀ z4 : Int32, z4 = v0.2.2.2.2.2.2.2.2.2.2.2.1 + (0 : Int32) → Q r1 (v0.1, v0.2.1, v0.2.2.1, v0.2.2.2.1, v0.2.2.2.2.1, v0.2.2.2.2.2.1, v0.2.2.2.2.2.2.1, v0.2.2.2.2.2.2.2.1, v0.2.2.2.2.2.2.2.2.1, v0.2.2.2.2.2.2.2.2.2.1, v0.2.2.2.2.2.2.2.2.2.2.1, z4, v0.2.2.2.2.2.2.2.2.2.2.2.2.1, v0.2.2.2.2.2.2.2.2.2.2.2.2.2.1, v0.2.2.2.2.2.2.2.2.2.2.2.2.2.2.1, v0.2.2.2.2.2.2.2.2.2.2.2.2.2.2.2.1, v0.2.2.2.2.2.2.2.2.2.2.2.2.2.2.2.2)) ∧ ((¬ r1 = 0) → ∀ z5 : Int32, z5 = v0.2.2.2.2.2.2.2.2.2.2.2.1 + (1 : Int32) → Q r1 (v0.1, v0.2.1, v0.2.2.1, v0.2.2.2.1, v0.2.2.2.2.1, v0.2.2.2.2.2.1, v0.2.2.2.2.2.2.1, v0.2.2.2.2.2.2.2.1, v0.2.2.2.2.2.2.2.2.1, v0.2.2.2.2.2.2.2.2.2.1, v0.2.2.2.2.2.2.2.2.2.2.1, z5, v0.2.2.2.2.2.2.2.2.2.2.2.2.1, v0.2.2.2.2.2.2.2.2.2.2.2.2.2.1, v0.2.2.2.2.2.2.2.2.2.2.2.2.2.2.1, v0.2.2.2.2.2.2.2.2.2.2.2.2.2.2.2.1, v0.2.2.2.2.2.2.2.2.2.2.2.2.2.2.2.2)))
def wp_X9_takesOne (v0 : ModV) (i0 : Int32) (i1 : Int32) (Q : Int32 → ModV → Prop) : Prop := wp_X9_sees v0 i0 i1 (fun r1 => ((¬ r1 = 0) → ∀ z4 : Int32, z4 = v0.2.2.2.2.2.2.2.2.2.2.2.1 + (1 : Int32) → vp_in (z4 - (1 : Int32)) 60 ∧ (Q (v0.2.2.2.2.2.2.1 (z4 - (1 : Int32)).toNatClampNeg) (v0.1, v0.2.1, v0.2.2.1, v0.2.2.2.1, v0.2.2.2.2.1, v0.2.2.2.2.2.1, v0.2.2.2.2.2.2.1, v0.2.2.2.2.2.2.2.1, v0.2.2.2.2.2.2.2.2.1, v0.2.2.2.2.2.2.2.2.2.1, v0.2.2.2.2.2.2.2.2.2.2.1, z4, v0.2.2.2.2.2.2.2.2.2.2.2.2.1, v0.2.2.2.2.2.2.2.2.2.2.2.2.2.1, v0.2.2.2.2.2.2.2.2.2.2.2.2.2.2.1, v0.2.2.2.2.2.2.2.2.2.2.2.2.2.2.2.1, v0.2.2.2.2.2.2.2.2.2.2.2.2.2.2.2.2))) ∧ ((r1 = 0) → Q (-4 : Int32) v0))
def wp_X9_readDeed_B109 (x1 : Int32) (t0 : Int32) (w0 : ModV) (Q : Int32 → ModV → Prop) : Prop := ((¬ t0 = 0) → vp_in w0.2.2.2.2.2.2.2.2.2.2.2.1 60 ∧ (vp_in (x1 + (1 : Int32)) 124 ∧ ∀ g15 : Nat → Int32, g15 = upd w0.2.2.2.2.2.2.2.2.2.2.2.2.1 (x1 + (1 : Int32)).toNatClampNeg (w0.2.2.2.2.2.2.1 w0.2.2.2.2.2.2.2.2.2.2.2.1.toNatClampNeg) → ∀ z16 : Int32, z16 = w0.2.2.2.2.2.2.2.2.2.2.2.1 + (1 : Int32) → wp_X9_takesOne (w0.1, w0.2.1, w0.2.2.1, w0.2.2.2.1, w0.2.2.2.2.1, w0.2.2.2.2.2.1, w0.2.2.2.2.2.2.1, w0.2.2.2.2.2.2.2.1, w0.2.2.2.2.2.2.2.2.1, w0.2.2.2.2.2.2.2.2.2.1, w0.2.2.2.2.2.2.2.2.2.2.1, z16, g15, w0.2.2.2.2.2.2.2.2.2.2.2.2.2.1, w0.2.2.2.2.2.2.2.2.2.2.2.2.2.2.1, w0.2.2.2.2.2.2.2.2.2.2.2.2.2.2.2.1, w0.2.2.2.2.2.2.2.2.2.2.2.2.2.2.2.2) (48 : Int32) (57 : Int32) (fun r17 u18 => vp_in (x1 + (3 : Int32)) 124 ∧ ∀ g20 : Nat → Int32, g20 = upd u18.2.2.2.2.2.2.2.2.2.2.2.2.1 (x1 + (3 : Int32)).toNatClampNeg (r17 - (48 : Int32)) → ∀ z21 : Int32, z21 = u18.2.2.2.2.2.2.2.2.2.2.2.2.2.1 + (1 : Int32) → ((r17 = (-4 : Int32)) → Q (0 : Int32) (u18.1, u18.2.1, u18.2.2.1, u18.2.2.2.1, u18.2.2.2.2.1, u18.2.2.2.2.2.1, u18.2.2.2.2.2.2.1, u18.2.2.2.2.2.2.2.1, u18.2.2.2.2.2.2.2.2.1, u18.2.2.2.2.2.2.2.2.2.1, u18.2.2.2.2.2.2.2.2.2.2.1, u18.2.2.2.2.2.2.2.2.2.2.2.1, g20, z21, u18.2.2.2.2.2.2.2.2.2.2.2.2.2.2.1, u18.2.2.2.2.2.2.2.2.2.2.2.2.2.2.2.1, u18.2.2.2.2.2.2.2.2.2.2.2.2.2.2.2.2)) ∧ ((¬ r17 = (-4 : Int32)) → Q (1 : Int32) (u18.1, u18.2.1, u18.2.2.1, u18.2.2.2.1, u18.2.2.2.2.1, u18.2.2.2.2.2.1, u18.2.2.2.2.2.2.1, u18.2.2.2.2.2.2.2.1, u18.2.2.2.2.2.2.2.2.1, u18.2.2.2.2.2.2.2.2.2.1, u18.2.2.2.2.2.2.2.2.2.2.1, u18.2.2.2.2.2.2.2.2.2.2.2.1, g20, z21, u18.2.2.2.2.2.2.2.2.2.2.2.2.2.2.1, u18.2.2.2.2.2.2.2.2.2.2.2.2.2.2.2.1, u18.2.2.2.2.2.2.2.2.2.2.2.2.2.2.2.2))))) ∧ ((t0 = 0) → Q (0 : Int32) w0)
def wp_X9_readDeed_B104 (x1 : Int32) (w0 : ModV) (Q : Int32 → ModV → Prop) : Prop := wp_X9_readDeed_B109 x1 (1 : Int32) w0 Q
def wp_X9_readDeed_B108 (x1 : Int32) (w0 : ModV) (Q : Int32 → ModV → Prop) : Prop := wp_X9_readDeed_B109 x1 (0 : Int32) w0 Q
def wp_X9_readDeed_B67 (x1 : Int32) (x2 : Int32) (w0 : ModV) (Q : Int32 → ModV → Prop) : Prop := wp_X9_sees w0 (111 : Int32) (111 : Int32) (fun r9 => ((¬ r9 = 0) → wp_X9_readDeed_B104 x1 w0 Q) ∧ ((r9 = 0) → wp_X9_sees w0 (99 : Int32) (99 : Int32) (fun r23 => ((¬ r23 = 0) → wp_X9_readDeed_B104 x1 w0 Q) ∧ ((r23 = 0) → ((x2 = 0) → wp_X9_readDeed_B108 x1 w0 Q) ∧ ((¬ x2 = 0) → wp_X9_sees w0 (119 : Int32) (119 : Int32) (fun r27 => ((r27 = 0) → wp_X9_readDeed_B108 x1 w0 Q) ∧ ((¬ r27 = 0) → wp_X9_readDeed_B104 x1 w0 Q)))))))
def wp_X9_readDeed (v0 : ModV) (Q : Int32 → ModV → Prop) : Prop := ∀ z1 : Int32, z1 = (4 : Int32) * v0.2.2.2.2.2.2.2.2.2.2.2.2.2.1 → vp_in z1 124 ∧ ∀ g3 : Nat → Int32, g3 = upd v0.2.2.2.2.2.2.2.2.2.2.2.2.1 z1.toNatClampNeg v0.2.2.2.2.2.2.2.2.2.2.2.1 → vp_in (z1 + (2 : Int32)) 124 ∧ ∀ g5 : Nat → Int32, g5 = upd g3 (z1 + (2 : Int32)).toNatClampNeg (-4 : Int32) → wp_X9_takes (v0.1, v0.2.1, v0.2.2.1, v0.2.2.2.1, v0.2.2.2.2.1, v0.2.2.2.2.2.1, v0.2.2.2.2.2.2.1, v0.2.2.2.2.2.2.2.1, v0.2.2.2.2.2.2.2.2.1, v0.2.2.2.2.2.2.2.2.2.1, v0.2.2.2.2.2.2.2.2.2.2.1, v0.2.2.2.2.2.2.2.2.2.2.2.1, g5, v0.2.2.2.2.2.2.2.2.2.2.2.2.2.1, v0.2.2.2.2.2.2.2.2.2.2.2.2.2.2.1, v0.2.2.2.2.2.2.2.2.2.2.2.2.2.2.2.1, v0.2.2.2.2.2.2.2.2.2.2.2.2.2.2.2.2) (103 : Int32) (fun r6 u7 => ((r6 = 0) → wp_X9_readDeed_B67 z1 r6 u7 Q) ∧ ((¬ r6 = 0) → wp_X9_takesOne u7 (48 : Int32) (50 : Int32) (fun r30 u31 => ((¬ r30 = (-4 : Int32)) → vp_in (z1 + (2 : Int32)) 124 ∧ ∀ g34 : Nat → Int32, g34 = upd u31.2.2.2.2.2.2.2.2.2.2.2.2.1 (z1 + (2 : Int32)).toNatClampNeg (r30 - (48 : Int32)) → wp_X9_readDeed_B67 z1 r6 (u31.1, u31.2.1, u31.2.2.1, u31.2.2.2.1, u31.2.2.2.2.1, u31.2.2.2.2.2.1, u31.2.2.2.2.2.2.1, u31.2.2.2.2.2.2.2.1, u31.2.2.2.2.2.2.2.2.1, u31.2.2.2.2.2.2.2.2.2.1, u31.2.2.2.2.2.2.2.2.2.2.1, u31.2.2.2.2.2.2.2.2.2.2.2.1, g34, u31.2.2.2.2.2.2.2.2.2.2.2.2.2.1, u31.2.2.2.2.2.2.2.2.2.2.2.2.2.2.1, u31.2.2.2.2.2.2.2.2.2.2.2.2.2.2.2.1, u31.2.2.2.2.2.2.2.2.2.2.2.2.2.2.2.2) Q) ∧ ((r30 = (-4 : Int32)) → Q (0 : Int32) u31))))
def wp_X9_readPad_L15 (Q : Int32 → ModV → Prop) : Nat → Int32 → ModV → Prop
  | 0, _, _ => False
  | n + 1, x1, w0 => ((x1 = 0) → narrow .boolean (.int x1) = .int x1 ∧ Q x1 w0) ∧ ((¬ x1 = 0) → ((w0.2.2.2.2.2.2.2.1 ≤ w0.2.2.2.2.2.2.2.2.2.2.2.1) → narrow .boolean (.int x1) = .int x1 ∧ Q x1 w0) ∧ ((¬ w0.2.2.2.2.2.2.2.1 ≤ w0.2.2.2.2.2.2.2.2.2.2.2.1) → wp_X9_takes w0 (59 : Int32) (fun r5 u6 => ((r5 = 0) → (wp_X9_readPad_L15 Q n) (0 : Int32) u6) ∧ ((¬ r5 = 0) → wp_X9_readDeed u6 (fun r8 u9 => ((r8 = 0) → (wp_X9_readPad_L15 Q n) (0 : Int32) u9) ∧ ((¬ r8 = 0) → (wp_X9_readPad_L15 Q n) (1 : Int32) u9))))))
def wp_X9_readPad (v0 : ModV) (Q : Int32 → ModV → Prop) : Prop := wp_X9_readDeed (v0.1, v0.2.1, v0.2.2.1, v0.2.2.2.1, v0.2.2.2.2.1, v0.2.2.2.2.2.1, v0.2.2.2.2.2.2.1, v0.2.2.2.2.2.2.2.1, v0.2.2.2.2.2.2.2.2.1, v0.2.2.2.2.2.2.2.2.2.1, v0.2.2.2.2.2.2.2.2.2.2.1, (0 : Int32), v0.2.2.2.2.2.2.2.2.2.2.2.2.1, (0 : Int32), v0.2.2.2.2.2.2.2.2.2.2.2.2.2.2.1, v0.2.2.2.2.2.2.2.2.2.2.2.2.2.2.2.1, v0.2.2.2.2.2.2.2.2.2.2.2.2.2.2.2.2) (fun r1 u2 => ∃ k : Nat, wp_X9_readPad_L15 Q k r1 u2)
def wp_X9_fault (v0 : ModV) (Q : Int32 → ModV → Prop) : Prop := wp_X9_readPad v0 (fun r1 u2 => ((r1 = 0) → Q u2.2.2.2.2.2.2.2.2.2.2.2.1 u2) ∧ ((¬ r1 = 0) → Q (-4 : Int32) u2))
def wp_X9_doDeed (v0 : ModV) (i0 : Int32) (Q : Int32 → ModV → Prop) : Prop := vp_in (((4 : Int32) * i0) + (2 : Int32)) 124 ∧ (∀ z2 : Int32, z2 = v0.2.2.2.2.2.2.2.2.2.2.2.2.1 (((4 : Int32) * i0) + (2 : Int32)).toNatClampNeg → vp_in (((4 : Int32) * i0) + (3 : Int32)) 124 ∧ (∀ z4 : Int32, z4 = v0.2.2.2.2.2.2.2.2.2.2.2.2.1 (((4 : Int32) * i0) + (3 : Int32)).toNatClampNeg → vp_in (((4 : Int32) * i0) + (1 : Int32)) 124 ∧ (∀ z6 : Int32, z6 = v0.2.2.2.2.2.2.2.2.2.2.2.2.1 (((4 : Int32) * i0) + (1 : Int32)).toNatClampNeg → ((z6 = (99 : Int32) → ((¬ z2 = (-4 : Int32)) → wp_X9_guestShutsNow v0 z2 z4 (fun r9 u10 => Q r9 u10)) ∧ ((z2 = (-4 : Int32)) → wp_X9_shutNow v0 z4 (fun r11 u12 => Q r11 u12))) ∧ (z6 = (111 : Int32) → ((¬ z2 = (-4 : Int32)) → wp_X9_guestOpensNow v0 z2 z4 (fun r15 u16 => Q r15 u16)) ∧ ((z2 = (-4 : Int32)) → wp_X9_openNow v0 z4 (fun r17 u18 => Q r17 u18))) ∧ (¬ z6 = (99 : Int32) → ¬ z6 = (111 : Int32) → wp_X9_walkNow v0 z2 z4 (fun r19 u20 => Q r19 u20))))))
def wp_X9_run_L39 (Q : Int32 → ModV → Prop) : Nat → Int32 → ModV → Prop
  | 0, _, _ => False
  | n + 1, x1, w0 => ((w0.2.2.2.2.2.2.2.2.2.2.2.2.2.1 ≤ x1) → Q w0.2.2.2.2.2.2.2.2.2.2.2.2.2.1 w0) ∧ ((¬ w0.2.2.2.2.2.2.2.2.2.2.2.2.2.1 ≤ x1) → wp_X9_doDeed w0 x1 (fun r7 u8 => (((10 : Int32) ≤ r7) → ∀ z10 : Int32, z10 = x1 + (1 : Int32) → (wp_X9_run_L39 Q n) z10 u8) ∧ ((¬ (10 : Int32) ≤ r7) → vp_in ((4 : Int32) * x1) 124 ∧ (∀ z12 : Int32, z12 = u8.2.2.2.2.2.2.2.2.2.2.2.2.1 ((4 : Int32) * x1).toNatClampNeg → Q x1 (u8.1, u8.2.1, u8.2.2.1, u8.2.2.2.1, u8.2.2.2.2.1, u8.2.2.2.2.2.1, u8.2.2.2.2.2.2.1, u8.2.2.2.2.2.2.2.1, r7, x1, z12, u8.2.2.2.2.2.2.2.2.2.2.2.1, u8.2.2.2.2.2.2.2.2.2.2.2.2.1, u8.2.2.2.2.2.2.2.2.2.2.2.2.2.1, u8.2.2.2.2.2.2.2.2.2.2.2.2.2.2.1, u8.2.2.2.2.2.2.2.2.2.2.2.2.2.2.2.1, u8.2.2.2.2.2.2.2.2.2.2.2.2.2.2.2.2)))))
def wp_X9_run (v0 : ModV) (Q : Int32 → ModV → Prop) : Prop := wp_X9_readPad v0 (fun r1 u2 => ((¬ r1 = 0) → wp_X9_record u2 (fun u5 => ∃ k : Nat, wp_X9_run_L39 Q k (0 : Int32) (u5.1, u5.2.1, u5.2.2.1, u5.2.2.2.1, u5.2.2.2.2.1, u5.2.2.2.2.2.1, u5.2.2.2.2.2.2.1, (0 : Int32), (-4 : Int32), (-4 : Int32), (-4 : Int32), u5.2.2.2.2.2.2.2.2.2.2.2.1, u5.2.2.2.2.2.2.2.2.2.2.2.2.1, u5.2.2.2.2.2.2.2.2.2.2.2.2.2.1, u5.2.2.2.2.2.2.2.2.2.2.2.2.2.2.1, u5.2.2.2.2.2.2.2.2.2.2.2.2.2.2.2.1, u5.2.2.2.2.2.2.2.2.2.2.2.2.2.2.2.2))) ∧ ((r1 = 0) → Q (-2 : Int32) u2))
def wp_X9_why (v0 : ModV) (i0 : Int32) (Q : Int32 → Prop) : Prop := ((¬ i0 = 0) → ((¬ i0 = (1 : Int32)) → ((¬ i0 = (2 : Int32)) → Q (-1 : Int32)) ∧ ((i0 = (2 : Int32)) → Q v0.2.2.2.2.2.2.2.2.2.2.1)) ∧ ((i0 = (1 : Int32)) → Q v0.2.2.2.2.2.2.2.2.2.1)) ∧ ((i0 = 0) → Q v0.2.2.2.2.2.2.2.2.1)
def wp_X9_door (v0 : ModV) (i0 : Int32) (i1 : Int32) (Q : Int32 → Prop) : Prop := wp_X9_isDoor i0 (fun r1 => ((¬ r1 = 0) → (i1 = (0 : Int32) → wp_X9_of v0 i0 (0 : Int32) (fun r5 => Q r5)) ∧ (i1 = (1 : Int32) → wp_X9_lesserHall v0 i0 (fun r8 => Q r8)) ∧ (i1 = (2 : Int32) → wp_X9_greaterHall v0 i0 (fun r11 => Q r11)) ∧ (i1 = (3 : Int32) → wp_X9_of v0 i0 (3 : Int32) (fun r14 => Q r14)) ∧ (i1 = (4 : Int32) → wp_X9_of v0 i0 (4 : Int32) (fun r17 => Q r17)) ∧ (i1 = (5 : Int32) → wp_X9_cordsTo v0 i0 (1 : Int32) (fun r20 => ((r20 ≤ 0) → Q (0 : Int32)) ∧ ((¬ r20 ≤ 0) → Q (1 : Int32)))) ∧ (i1 = (6 : Int32) → ((¬ i1 = (7 : Int32)) → wp_X9_cordsTo v0 i0 (0 : Int32) (fun r25 => Q r25)) ∧ ((i1 = (7 : Int32)) → wp_X9_cordsTo v0 i0 (1 : Int32) (fun r27 => Q r27))) ∧ (i1 = (7 : Int32) → ((¬ i1 = (7 : Int32)) → wp_X9_cordsTo v0 i0 (0 : Int32) (fun r31 => Q r31)) ∧ ((i1 = (7 : Int32)) → wp_X9_cordsTo v0 i0 (1 : Int32) (fun r33 => Q r33))) ∧ (i1 = (8 : Int32) → wp_X9_of v0 i0 (5 : Int32) (fun r36 => Q r36)) ∧ (i1 = (9 : Int32) → wp_X9_of v0 i0 (6 : Int32) (fun r39 => Q r39)) ∧ (¬ i1 = (0 : Int32) → ¬ i1 = (1 : Int32) → ¬ i1 = (2 : Int32) → ¬ i1 = (3 : Int32) → ¬ i1 = (4 : Int32) → ¬ i1 = (5 : Int32) → ¬ i1 = (6 : Int32) → ¬ i1 = (7 : Int32) → ¬ i1 = (8 : Int32) → ¬ i1 = (9 : Int32) → Q (-1 : Int32))) ∧ ((r1 = 0) → Q (-1 : Int32)))
def wp_X9_doorsOf_L4 (v0 : ModV) (x1 : Int32) (Q : Int32 → Prop) : Nat → Int32 → Int32 → Prop
  | 0, _, _ => False
  | n + 1, x2, x3 => (((10 : Int32) ≤ x3) → Q x2) ∧ ((¬ (10 : Int32) ≤ x3) → wp_X9_joins v0 x3 x1 (fun r2 => ((r2 = 0) → ∀ z5 : Int32, z5 = x2 + (0 : Int32) → ∀ z6 : Int32, z6 = x3 + (1 : Int32) → (wp_X9_doorsOf_L4 v0 x1 Q n) z5 z6) ∧ ((¬ r2 = 0) → ∀ z7 : Int32, z7 = x2 + (1 : Int32) → ∀ z8 : Int32, z8 = x3 + (1 : Int32) → (wp_X9_doorsOf_L4 v0 x1 Q n) z7 z8)))
def wp_X9_doorsOf (v0 : ModV) (i0 : Int32) (Q : Int32 → Prop) : Prop := ∃ k : Nat, wp_X9_doorsOf_L4 v0 i0 Q k (0 : Int32) (0 : Int32)
def wp_X9_guestsIn_L4 (v0 : ModV) (x1 : Int32) (Q : Int32 → Prop) : Nat → Int32 → Int32 → Prop
  | 0, _, _ => False
  | n + 1, x2, x3 => (((3 : Int32) ≤ x3) → Q x2) ∧ ((¬ (3 : Int32) ≤ x3) → wp_X9_ofGuest v0 x3 (0 : Int32) (fun r2 => ((¬ r2 = x1) → ∀ z5 : Int32, z5 = x2 + (0 : Int32) → ∀ z6 : Int32, z6 = x3 + (1 : Int32) → (wp_X9_guestsIn_L4 v0 x1 Q n) z5 z6) ∧ ((r2 = x1) → ∀ z7 : Int32, z7 = x2 + (1 : Int32) → ∀ z8 : Int32, z8 = x3 + (1 : Int32) → (wp_X9_guestsIn_L4 v0 x1 Q n) z7 z8)))
def wp_X9_guestsIn (v0 : ModV) (i0 : Int32) (Q : Int32 → Prop) : Prop := ∃ k : Nat, wp_X9_guestsIn_L4 v0 i0 Q k (0 : Int32) (0 : Int32)
def wp_X9_hangs_L15 (v0 : ModV) (x3 : Int32) (Q : Int32 → Prop) (K6 : Int32 → Int32 → Prop) : Nat → Int32 → Int32 → Prop
  | 0, _, _ => False
  | n + 1, x2, x4 => (((10 : Int32) ≤ x4) → ∀ z4 : Int32, z4 = x3 + (1 : Int32) → K6 x2 z4) ∧ ((¬ (10 : Int32) ≤ x4) → wp_X9_of v0 x4 (1 : Int32) (fun r5 => wp_X9_of v0 x4 (2 : Int32) (fun r7 => ∀ z9 : Int32, z9 = ((1 : Int32) <<< (r5 &&& 31)) ||| ((1 : Int32) <<< (r7 &&& 31)) → wp_X9_isOpen v0 x4 (fun r10 => ((r10 = 0) → ∀ z13 : Int32, z13 = x2 ||| (0 : Int32) → ∀ z14 : Int32, z14 = x4 + (1 : Int32) → (wp_X9_hangs_L15 v0 x3 Q K6 n) z13 z14) ∧ ((¬ r10 = 0) → (((x2 &&& z9) = 0) → ∀ z16 : Int32, z16 = x2 ||| (0 : Int32) → ∀ z17 : Int32, z17 = x4 + (1 : Int32) → (wp_X9_hangs_L15 v0 x3 Q K6 n) z16 z17) ∧ ((¬ (x2 &&& z9) = 0) → ∀ z18 : Int32, z18 = x2 ||| z9 → ∀ z19 : Int32, z19 = x4 + (1 : Int32) → (wp_X9_hangs_L15 v0 x3 Q K6 n) z18 z19))))))
def wp_X9_hangs_L6 (v0 : ModV) (Q : Int32 → Prop) : Nat → Int32 → Int32 → Prop
  | 0, _, _ => False
  | n + 1, x2, x3 => (((6 : Int32) ≤ x3) → Q x2) ∧ ((¬ (6 : Int32) ≤ x3) → ∃ k : Nat, wp_X9_hangs_L15 v0 x3 Q (wp_X9_hangs_L6 v0 Q n) k x2 (0 : Int32))
def wp_X9_hangs (v0 : ModV) (i0 : Int32) (Q : Int32 → Prop) : Prop := ∀ z1 : Int32, z1 = (1 : Int32) <<< (i0 &&& 31) → ∃ k : Nat, wp_X9_hangs_L6 v0 Q k z1 (0 : Int32)
def wp_X9_size_L4 (x0 : Int32) (Q : Int32 → Prop) : Nat → Int32 → Int32 → Prop
  | 0, _, _ => False
  | n + 1, x1, x2 => (((10 : Int32) ≤ x2) → Q x1) ∧ ((¬ (10 : Int32) ≤ x2) → ∀ z2 : Int32, z2 = x1 + ((x0 >>> (x2 &&& 31)) &&& (1 : Int32)) → ∀ z3 : Int32, z3 = x2 + (1 : Int32) → (wp_X9_size_L4 x0 Q n) z2 z3)
def wp_X9_size (i0 : Int32) (Q : Int32 → Prop) : Prop := ∃ k : Nat, wp_X9_size_L4 i0 Q k (0 : Int32) (0 : Int32)
def wp_X9_hall (v0 : ModV) (i0 : Int32) (i1 : Int32) (Q : Int32 → Prop) : Prop := wp_X9_isHall i0 (fun r1 => ((¬ r1 = 0) → (i1 = (0 : Int32) → wp_X9_doorsOf v0 i0 (fun r5 => Q r5)) ∧ (i1 = (1 : Int32) → wp_X9_openIn v0 i0 (fun r8 => Q r8)) ∧ (i1 = (2 : Int32) → wp_X9_guestsIn v0 i0 (fun r11 => Q r11)) ∧ (i1 = (3 : Int32) → wp_X9_hangs v0 i0 (fun r14 => wp_X9_size r14 (fun r16 => Q r16))) ∧ (¬ i1 = (0 : Int32) → ¬ i1 = (1 : Int32) → ¬ i1 = (2 : Int32) → ¬ i1 = (3 : Int32) → Q (-1 : Int32))) ∧ ((r1 = 0) → Q (-1 : Int32)))
def wp_X9_canOpen_L4 (v0 : ModV) (x1 : Int32) (Q : Int32 → Prop) : Nat → Int32 → Int32 → Prop
  | 0, _, _ => False
  | n + 1, x2, x3 => (((10 : Int32) ≤ x3) → Q x2) ∧ ((¬ (10 : Int32) ≤ x3) → wp_X9_isAt v0 x1 x3 (fun r2 => ((r2 = 0) → ∀ z5 : Int32, z5 = x2 + (0 : Int32) → ∀ z6 : Int32, z6 = x3 + (1 : Int32) → (wp_X9_canOpen_L4 v0 x1 Q n) z5 z6) ∧ ((¬ r2 = 0) → wp_X9_hasKey v0 x1 x3 (fun r7 => ((r7 = 0) → ∀ z10 : Int32, z10 = x2 + (0 : Int32) → ∀ z11 : Int32, z11 = x3 + (1 : Int32) → (wp_X9_canOpen_L4 v0 x1 Q n) z10 z11) ∧ ((¬ r7 = 0) → wp_X9_reason v0 x3 (fun r12 => ((¬ r12 = 0) → ∀ z15 : Int32, z15 = x2 + (0 : Int32) → ∀ z16 : Int32, z16 = x3 + (1 : Int32) → (wp_X9_canOpen_L4 v0 x1 Q n) z15 z16) ∧ ((r12 = 0) → ∀ z17 : Int32, z17 = x2 + (1 : Int32) → ∀ z18 : Int32, z18 = x3 + (1 : Int32) → (wp_X9_canOpen_L4 v0 x1 Q n) z17 z18)))))))
def wp_X9_canOpen (v0 : ModV) (i0 : Int32) (Q : Int32 → Prop) : Prop := ∃ k : Nat, wp_X9_canOpen_L4 v0 i0 Q k (0 : Int32) (0 : Int32)
def wp_X9_guest (v0 : ModV) (i0 : Int32) (i1 : Int32) (Q : Int32 → Prop) : Prop := wp_X9_isGuest i0 (fun r1 => ((¬ r1 = 0) → (i1 = (0 : Int32) → wp_X9_ofGuest v0 i0 i1 (fun r5 => Q r5)) ∧ (i1 = (1 : Int32) → wp_X9_ofGuest v0 i0 i1 (fun r8 => Q r8)) ∧ (i1 = (2 : Int32) → wp_X9_canOpen v0 i0 (fun r11 => Q r11)) ∧ (i1 = (3 : Int32) → wp_X9_ofGuest v0 i0 (2 : Int32) (fun r14 => Q r14)) ∧ (¬ i1 = (0 : Int32) → ¬ i1 = (1 : Int32) → ¬ i1 = (2 : Int32) → ¬ i1 = (3 : Int32) → Q (-1 : Int32))) ∧ ((r1 = 0) → Q (-1 : Int32)))
def wp_X9_whyNot (v0 : ModV) (i0 : Int32) (Q : Int32 → Prop) : Prop := wp_X9_isDoor i0 (fun r1 => ((r1 = 0) → Q (-1 : Int32)) ∧ ((¬ r1 = 0) → wp_X9_reason v0 i0 (fun r4 => Q r4)))
def wp_X9_canBe_L79 (v0 : ModV) (x1 : Int32) (x2 : Int32) (x3 : Int32) (Q : Int32 → Prop) (K67 : Int32 → Int32 → Prop) : Nat → Int32 → Int32 → Prop
  | 0, _, _ => False
  | n + 1, x4, x5 => (((10 : Int32) ≤ x5) → ((x2 = 0) → ∀ z5 : Int32, z5 = x3 + (1 : Int32) → K67 (0 : Int32) z5) ∧ ((¬ x2 = 0) → vp_in (0 : Int32) 85 ∧ ((((v0.1 (0 : Int32).toNatClampNeg) < x4) → ∀ z8 : Int32, z8 = x3 + (1 : Int32) → K67 (0 : Int32) z8) ∧ ((¬ (v0.1 (0 : Int32).toNatClampNeg) < x4) → ∀ z9 : Int32, z9 = x3 + (1 : Int32) → K67 (1 : Int32) z9)))) ∧ ((¬ (10 : Int32) ≤ x5) → ((¬ ((x1 >>> (x5 &&& 31)) &&& (1 : Int32)) = (1 : Int32)) → ∀ z11 : Int32, z11 = x4 + (0 : Int32) → ∀ z12 : Int32, z12 = x5 + (1 : Int32) → (wp_X9_canBe_L79 v0 x1 x2 x3 Q K67 n) z11 z12) ∧ ((((x1 >>> (x5 &&& 31)) &&& (1 : Int32)) = (1 : Int32)) → wp_X9_joins v0 x5 x3 (fun r13 => ((r13 = 0) → ∀ z16 : Int32, z16 = x4 + (0 : Int32) → ∀ z17 : Int32, z17 = x5 + (1 : Int32) → (wp_X9_canBe_L79 v0 x1 x2 x3 Q K67 n) z16 z17) ∧ ((¬ r13 = 0) → ∀ z18 : Int32, z18 = x4 + (1 : Int32) → ∀ z19 : Int32, z19 = x5 + (1 : Int32) → (wp_X9_canBe_L79 v0 x1 x2 x3 Q K67 n) z18 z19))))
def wp_X9_canBe_L67 (v0 : ModV) (x1 : Int32) (Q : Int32 → Prop) : Nat → Int32 → Int32 → Prop
  | 0, _, _ => False
  | n + 1, x2, x3 => (((6 : Int32) ≤ x3) → narrow .boolean (.int x2) = .int x2 ∧ Q x2) ∧ ((¬ (6 : Int32) ≤ x3) → ∃ k : Nat, wp_X9_canBe_L79 v0 x1 x2 x3 Q (wp_X9_canBe_L67 v0 x1 Q n) k (0 : Int32) (0 : Int32))
def wp_X9_canBe_L13 (v0 : ModV) (x1 : Int32) (x3 : Int32) (Q : Int32 → Prop) (K4 : Int32 → Int32 → Prop) : Nat → Int32 → Int32 → Prop
  | 0, _, _ => False
  | n + 1, x2, x4 => (((10 : Int32) ≤ x4) → ∀ z21 : Int32, z21 = x3 + (1 : Int32) → K4 x2 z21) ∧ ((¬ (10 : Int32) ≤ x4) → ((x2 = 0) → ∀ z23 : Int32, z23 = x4 + (1 : Int32) → (wp_X9_canBe_L13 v0 x1 x3 Q K4 n) (0 : Int32) z23) ∧ ((¬ x2 = 0) → (((((x1 >>> (x3 &&& 31)) &&& (x1 >>> (x4 &&& 31))) &&& (1 : Int32)) = 0) → ∀ z25 : Int32, z25 = x4 + (1 : Int32) → (wp_X9_canBe_L13 v0 x1 x3 Q K4 n) (1 : Int32) z25) ∧ ((¬ (((x1 >>> (x3 &&& 31)) &&& (x1 >>> (x4 &&& 31))) &&& (1 : Int32)) = 0) → wp_X9_goesTo v0 x3 x4 (fun r26 => ((¬ r26 = 0) → ∀ z29 : Int32, z29 = x4 + (1 : Int32) → (wp_X9_canBe_L13 v0 x1 x3 Q K4 n) (0 : Int32) z29) ∧ ((r26 = 0) → ∀ z30 : Int32, z30 = x4 + (1 : Int32) → (wp_X9_canBe_L13 v0 x1 x3 Q K4 n) (1 : Int32) z30)))))
def wp_X9_canBe_L4 (v0 : ModV) (x1 : Int32) (Q : Int32 → Prop) : Nat → Int32 → Int32 → Prop
  | 0, _, _ => False
  | n + 1, x2, x3 => (((10 : Int32) ≤ x3) → ∃ k : Nat, wp_X9_canBe_L67 v0 x1 Q k x2 (0 : Int32)) ∧ ((¬ (10 : Int32) ≤ x3) → ∃ k : Nat, wp_X9_canBe_L13 v0 x1 x3 Q (wp_X9_canBe_L4 v0 x1 Q n) k x2 (0 : Int32))
def wp_X9_canBe (v0 : ModV) (i0 : Int32) (Q : Int32 → Prop) : Prop := ∃ k : Nat, wp_X9_canBe_L4 v0 i0 Q k (1 : Int32) (0 : Int32)
def wp_X9_can (v0 : ModV) (i0 : Int32) (Q : Int32 → Prop) : Prop := wp_X9_in i0 (0 : Int32) (1023 : Int32) (fun r1 => ((¬ r1 = 0) → wp_X9_canBe v0 i0 (fun r4 => ((r4 = 0) → Q (0 : Int32)) ∧ ((¬ r4 = 0) → Q (1 : Int32)))) ∧ ((r1 = 0) → Q (-1 : Int32)))
def wp_X9_together_L15 (v0 : ModV) (Q : Int32 → Prop) : Nat → Int32 → Int32 → Prop
  | 0, _, _ => False
  | n + 1, x2, x3 => (((1024 : Int32) ≤ x3) → Q x2) ∧ ((¬ (1024 : Int32) ≤ x3) → wp_X9_size x3 (fun r5 => ((r5 ≤ x2) → ∀ z8 : Int32, z8 = x3 + (1 : Int32) → (wp_X9_together_L15 v0 Q n) x2 z8) ∧ ((¬ r5 ≤ x2) → wp_X9_canBe v0 x3 (fun r9 => ((r9 = 0) → ∀ z12 : Int32, z12 = x3 + (1 : Int32) → (wp_X9_together_L15 v0 Q n) x2 z12) ∧ ((¬ r9 = 0) → wp_X9_size x3 (fun r13 => ∀ z15 : Int32, z15 = x3 + (1 : Int32) → (wp_X9_together_L15 v0 Q n) r13 z15))))))
def wp_X9_together (v0 : ModV) (i0 : Int32) (Q : Int32 → Prop) : Prop := wp_X9_in i0 (0 : Int32) (1 : Int32) (fun r1 => ((¬ r1 = 0) → ∃ k : Nat, wp_X9_together_L15 v0 Q k (0 : Int32) (0 : Int32)) ∧ ((r1 = 0) → Q (-1 : Int32)))
def wp_X9_laySet_L2 (x1 : Int32) (Q : ModV → Prop) : Nat → Int32 → ModV → Prop
  | 0, _, _ => False
  | n + 1, x2, w0 => (((10 : Int32) ≤ x2) → Q w0) ∧ ((¬ (10 : Int32) ≤ x2) → wp_X9_lay w0 x2 (0 : Int32) ((x1 >>> (x2 &&& 31)) &&& (1 : Int32)) (fun u3 => ∀ z4 : Int32, z4 = x2 + (1 : Int32) → (wp_X9_laySet_L2 x1 Q n) z4 u3))
def wp_X9_laySet (v0 : ModV) (i0 : Int32) (Q : ModV → Prop) : Prop := ∃ k : Nat, wp_X9_laySet_L2 i0 Q k (0 : Int32) v0
def wp_X9_reach (v0 : ModV) (i0 : Int32) (i1 : Int32) (Q : ModV → Prop) : Prop := vp_in i0 6144 ∧ (((¬ (v0.2.2.2.2.2.2.2.2.2.2.2.2.2.2.1 i0.toNatClampNeg) = (-4 : Int32)) → Q v0) ∧ (((v0.2.2.2.2.2.2.2.2.2.2.2.2.2.2.1 i0.toNatClampNeg) = (-4 : Int32)) → vp_in i0 6144 ∧ ∀ g4 : Nat → Int32, g4 = upd v0.2.2.2.2.2.2.2.2.2.2.2.2.2.2.1 i0.toNatClampNeg i1 → vp_in v0.2.2.2.2.2.2.2.2.2.2.2.2.2.2.2.2 6144 ∧ ∀ g6 : Nat → Int32, g6 = upd v0.2.2.2.2.2.2.2.2.2.2.2.2.2.2.2.1 v0.2.2.2.2.2.2.2.2.2.2.2.2.2.2.2.2.toNatClampNeg i0 → ∀ z7 : Int32, z7 = v0.2.2.2.2.2.2.2.2.2.2.2.2.2.2.2.2 + (1 : Int32) → Q (v0.1, v0.2.1, v0.2.2.1, v0.2.2.2.1, v0.2.2.2.2.1, v0.2.2.2.2.2.1, v0.2.2.2.2.2.2.1, v0.2.2.2.2.2.2.2.1, v0.2.2.2.2.2.2.2.2.1, v0.2.2.2.2.2.2.2.2.2.1, v0.2.2.2.2.2.2.2.2.2.2.1, v0.2.2.2.2.2.2.2.2.2.2.2.1, v0.2.2.2.2.2.2.2.2.2.2.2.2.1, v0.2.2.2.2.2.2.2.2.2.2.2.2.2.1, g4, g6, z7)))
def wp_X9_goOn_B95 (x1 : Int32) (x2 : Int32) (x3 : Int32) (x4 : Int32) (x5 : Int32) (w0 : ModV) (Q : ModV → Prop) (K16 : Int32 → ModV → Prop) : Prop := wp_X9_joins w0 x5 x3 (fun r9 => ((r9 = 0) → ∀ z12 : Int32, z12 = x5 + (1 : Int32) → K16 z12 w0) ∧ ((¬ r9 = 0) → wp_X9_hasKey w0 x1 x5 (fun r13 => ((r13 = 0) → ∀ z16 : Int32, z16 = x5 + (1 : Int32) → K16 z16 w0) ∧ ((¬ r13 = 0) → wp_X9_reason w0 x5 (fun r17 => ((¬ r17 = 0) → ∀ z20 : Int32, z20 = x5 + (1 : Int32) → K16 z20 w0) ∧ ((r17 = 0) → wp_X9_opens w0 x5 (fun r21 u22 => wp_X9_openSet u22 (fun r23 => vp_in x2 6144 ∧ (wp_X9_reach u22 (((1024 : Int32) * x3) + r23) ((u22.2.2.2.2.2.2.2.2.2.2.2.2.2.2.1 x2.toNatClampNeg) + (1 : Int32)) (fun u27 => ∀ z28 : Int32, z28 = x5 + (1 : Int32) → K16 z28 u27))))))))))
def wp_X9_goOn_L16 (x1 : Int32) (x2 : Int32) (x3 : Int32) (x4 : Int32) (Q : ModV → Prop) : Nat → Int32 → ModV → Prop
  | 0, _, _ => False
  | n + 1, x5, w0 => (((10 : Int32) ≤ x5) → Q w0) ∧ ((¬ (10 : Int32) ≤ x5) → wp_X9_laySet w0 x4 (fun u5 => wp_X9_joins u5 x5 x3 (fun r6 => ((r6 = 0) → wp_X9_goOn_B95 x1 x2 x3 x4 x5 u5 Q (wp_X9_goOn_L16 x1 x2 x3 x4 Q n)) ∧ ((¬ r6 = 0) → wp_X9_isOpen u5 x5 (fun r29 => ((r29 = 0) → wp_X9_goOn_B95 x1 x2 x3 x4 x5 u5 Q (wp_X9_goOn_L16 x1 x2 x3 x4 Q n)) ∧ ((¬ r29 = 0) → wp_X9_across u5 x5 x3 (fun r32 => vp_in x2 6144 ∧ (wp_X9_reach u5 (((1024 : Int32) * r32) + x4) ((u5.2.2.2.2.2.2.2.2.2.2.2.2.2.2.1 x2.toNatClampNeg) + (1 : Int32)) (fun u36 => vp_in x2 6144 ∧ (wp_X9_reach u36 (x2 - ((1 : Int32) <<< (x5 &&& 31))) ((u36.2.2.2.2.2.2.2.2.2.2.2.2.2.2.1 x2.toNatClampNeg) + (1 : Int32)) (fun u39 => ∀ z40 : Int32, z40 = x5 + (1 : Int32) → (wp_X9_goOn_L16 x1 x2 x3 x4 Q n) z40 u39)))))))))))
def wp_X9_goOn (v0 : ModV) (i0 : Int32) (i1 : Int32) (Q : ModV → Prop) : Prop := ∀ z1 : Int32, z1 = i1 / (1024 : Int32) → ∀ z2 : Int32, z2 = i1 - i1 / (1024 : Int32) * (1024 : Int32) → ∃ k : Nat, wp_X9_goOn_L16 i0 i1 z1 z2 Q k (0 : Int32) v0
def wp_X9_deeds_B144 (x1 : Int32) (x2 : Int32) (x5 : Int32) (t0 : Int32) (w0 : ModV) (Q : Int32 → ModV → Prop) (K96 : Int32 → Int32 → ModV → Prop) : Prop := ((¬ t0 = (-4 : Int32)) → ∀ z28 : Int32, z28 = x5 + (1 : Int32) → K96 t0 z28 w0) ∧ ((t0 = (-4 : Int32)) → vp_in x5 6144 ∧ (wp_X9_goOn w0 x1 (w0.2.2.2.2.2.2.2.2.2.2.2.2.2.2.2.1 x5.toNatClampNeg) (fun u31 => ∀ z32 : Int32, z32 = x5 + (1 : Int32) → K96 t0 z32 u31)))
def wp_X9_deeds_L96 (x1 : Int32) (x2 : Int32) (Q : Int32 → ModV → Prop) : Nat → Int32 → Int32 → ModV → Prop
  | 0, _, _, _ => False
  | n + 1, x4, x5, w0 => ((w0.2.2.2.2.2.2.2.2.2.2.2.2.2.2.2.2 ≤ x5) → wp_X9_copyState 85 85 w0.2.1 w0.1 (0 : Int32) (0 : Int32) (fun u21 => Q x4 (u21, w0.2.1, w0.2.2.1, w0.2.2.2.1, w0.2.2.2.2.1, w0.2.2.2.2.2.1, w0.2.2.2.2.2.2.1, w0.2.2.2.2.2.2.2.1, w0.2.2.2.2.2.2.2.2.1, w0.2.2.2.2.2.2.2.2.2.1, w0.2.2.2.2.2.2.2.2.2.2.1, w0.2.2.2.2.2.2.2.2.2.2.2.1, w0.2.2.2.2.2.2.2.2.2.2.2.2.1, w0.2.2.2.2.2.2.2.2.2.2.2.2.2.1, w0.2.2.2.2.2.2.2.2.2.2.2.2.2.2.1, w0.2.2.2.2.2.2.2.2.2.2.2.2.2.2.2.1, w0.2.2.2.2.2.2.2.2.2.2.2.2.2.2.2.2))) ∧ ((¬ w0.2.2.2.2.2.2.2.2.2.2.2.2.2.2.2.2 ≤ x5) → ((¬ x4 = (-4 : Int32)) → wp_X9_copyState 85 85 w0.2.1 w0.1 (0 : Int32) (0 : Int32) (fun u24 => Q x4 (u24, w0.2.1, w0.2.2.1, w0.2.2.2.1, w0.2.2.2.2.1, w0.2.2.2.2.2.1, w0.2.2.2.2.2.2.1, w0.2.2.2.2.2.2.2.1, w0.2.2.2.2.2.2.2.2.1, w0.2.2.2.2.2.2.2.2.2.1, w0.2.2.2.2.2.2.2.2.2.2.1, w0.2.2.2.2.2.2.2.2.2.2.2.1, w0.2.2.2.2.2.2.2.2.2.2.2.2.1, w0.2.2.2.2.2.2.2.2.2.2.2.2.2.1, w0.2.2.2.2.2.2.2.2.2.2.2.2.2.2.1, w0.2.2.2.2.2.2.2.2.2.2.2.2.2.2.2.1, w0.2.2.2.2.2.2.2.2.2.2.2.2.2.2.2.2))) ∧ ((x4 = (-4 : Int32)) → vp_in x5 6144 ∧ (((¬ ((w0.2.2.2.2.2.2.2.2.2.2.2.2.2.2.2.1 x5.toNatClampNeg) / (1024 : Int32)) = x2) → wp_X9_deeds_B144 x1 x2 x5 (-4 : Int32) w0 Q (wp_X9_deeds_L96 x1 x2 Q n)) ∧ ((((w0.2.2.2.2.2.2.2.2.2.2.2.2.2.2.2.1 x5.toNatClampNeg) / (1024 : Int32)) = x2) → vp_in x5 6144 ∧ (vp_in (w0.2.2.2.2.2.2.2.2.2.2.2.2.2.2.2.1 x5.toNatClampNeg) 6144 ∧ (wp_X9_deeds_B144 x1 x2 x5 (w0.2.2.2.2.2.2.2.2.2.2.2.2.2.2.1 (w0.2.2.2.2.2.2.2.2.2.2.2.2.2.2.2.1 x5.toNatClampNeg).toNatClampNeg) w0 Q (wp_X9_deeds_L96 x1 x2 Q n)))))))
def wp_X9_deeds_L41 (x1 : Int32) (x2 : Int32) (Q : Int32 → ModV → Prop) : Nat → Int32 → ModV → Prop
  | 0, _, _ => False
  | n + 1, x4, w0 => (((6144 : Int32) ≤ x4) → wp_X9_ofGuest (w0.1, w0.2.1, w0.2.2.1, w0.2.2.2.1, w0.2.2.2.2.1, w0.2.2.2.2.2.1, w0.2.2.2.2.2.2.1, w0.2.2.2.2.2.2.2.1, w0.2.2.2.2.2.2.2.2.1, w0.2.2.2.2.2.2.2.2.2.1, w0.2.2.2.2.2.2.2.2.2.2.1, w0.2.2.2.2.2.2.2.2.2.2.2.1, w0.2.2.2.2.2.2.2.2.2.2.2.2.1, w0.2.2.2.2.2.2.2.2.2.2.2.2.2.1, w0.2.2.2.2.2.2.2.2.2.2.2.2.2.2.1, w0.2.2.2.2.2.2.2.2.2.2.2.2.2.2.2.1, (0 : Int32)) x1 (0 : Int32) (fun r13 => wp_X9_openSet (w0.1, w0.2.1, w0.2.2.1, w0.2.2.2.1, w0.2.2.2.2.1, w0.2.2.2.2.2.1, w0.2.2.2.2.2.2.1, w0.2.2.2.2.2.2.2.1, w0.2.2.2.2.2.2.2.2.1, w0.2.2.2.2.2.2.2.2.2.1, w0.2.2.2.2.2.2.2.2.2.2.1, w0.2.2.2.2.2.2.2.2.2.2.2.1, w0.2.2.2.2.2.2.2.2.2.2.2.2.1, w0.2.2.2.2.2.2.2.2.2.2.2.2.2.1, w0.2.2.2.2.2.2.2.2.2.2.2.2.2.2.1, w0.2.2.2.2.2.2.2.2.2.2.2.2.2.2.2.1, (0 : Int32)) (fun r15 => wp_X9_reach (w0.1, w0.2.1, w0.2.2.1, w0.2.2.2.1, w0.2.2.2.2.1, w0.2.2.2.2.2.1, w0.2.2.2.2.2.2.1, w0.2.2.2.2.2.2.2.1, w0.2.2.2.2.2.2.2.2.1, w0.2.2.2.2.2.2.2.2.2.1, w0.2.2.2.2.2.2.2.2.2.2.1, w0.2.2.2.2.2.2.2.2.2.2.2.1, w0.2.2.2.2.2.2.2.2.2.2.2.2.1, w0.2.2.2.2.2.2.2.2.2.2.2.2.2.1, w0.2.2.2.2.2.2.2.2.2.2.2.2.2.2.1, w0.2.2.2.2.2.2.2.2.2.2.2.2.2.2.2.1, (0 : Int32)) (((1024 : Int32) * r13) + r15) (0 : Int32) (fun u18 => ∃ k : Nat, wp_X9_deeds_L96 x1 x2 Q k (-4 : Int32) (0 : Int32) u18)))) ∧ ((¬ (6144 : Int32) ≤ x4) → vp_in x4 6144 ∧ ∀ g36 : Nat → Int32, g36 = upd w0.2.2.2.2.2.2.2.2.2.2.2.2.2.2.1 x4.toNatClampNeg (-4 : Int32) → ∀ z37 : Int32, z37 = x4 + (1 : Int32) → (wp_X9_deeds_L41 x1 x2 Q n) z37 (w0.1, w0.2.1, w0.2.2.1, w0.2.2.2.1, w0.2.2.2.2.1, w0.2.2.2.2.2.1, w0.2.2.2.2.2.2.1, w0.2.2.2.2.2.2.2.1, w0.2.2.2.2.2.2.2.2.1, w0.2.2.2.2.2.2.2.2.2.1, w0.2.2.2.2.2.2.2.2.2.2.1, w0.2.2.2.2.2.2.2.2.2.2.2.1, w0.2.2.2.2.2.2.2.2.2.2.2.2.1, w0.2.2.2.2.2.2.2.2.2.2.2.2.2.1, g36, w0.2.2.2.2.2.2.2.2.2.2.2.2.2.2.2.1, w0.2.2.2.2.2.2.2.2.2.2.2.2.2.2.2.2))
def wp_X9_deeds (v0 : ModV) (i0 : Int32) (i1 : Int32) (i2 : Int32) (Q : Int32 → ModV → Prop) : Prop := wp_X9_isGuest i0 (fun r1 => ((r1 = 0) → Q (-1 : Int32) v0) ∧ ((¬ r1 = 0) → wp_X9_isHall i1 (fun r4 => ((r4 = 0) → Q (-1 : Int32) v0) ∧ ((¬ r4 = 0) → wp_X9_in i2 (0 : Int32) (1 : Int32) (fun r7 => ((¬ r7 = 0) → wp_X9_copyState 85 85 v0.1 v0.2.1 (0 : Int32) (0 : Int32) (fun u11 => ∃ k : Nat, wp_X9_deeds_L41 i0 i1 Q k (0 : Int32) (v0.1, u11, v0.2.2.1, v0.2.2.2.1, v0.2.2.2.2.1, v0.2.2.2.2.2.1, v0.2.2.2.2.2.2.1, v0.2.2.2.2.2.2.2.1, v0.2.2.2.2.2.2.2.2.1, v0.2.2.2.2.2.2.2.2.2.1, v0.2.2.2.2.2.2.2.2.2.2.1, v0.2.2.2.2.2.2.2.2.2.2.2.1, v0.2.2.2.2.2.2.2.2.2.2.2.2.1, v0.2.2.2.2.2.2.2.2.2.2.2.2.2.1, v0.2.2.2.2.2.2.2.2.2.2.2.2.2.2.1, v0.2.2.2.2.2.2.2.2.2.2.2.2.2.2.2.1, v0.2.2.2.2.2.2.2.2.2.2.2.2.2.2.2.2))) ∧ ((r7 = 0) → Q (-1 : Int32) v0))))))
def wp_X9_cords_B42 (v0 : ModV) (x1 : Int32) (x2 : Int32) (x3 : Int32) (t0 : Int32) (t1 : Int32) (Q : Int32 → Prop) (K4 : Int32 → Int32 → Prop) : Prop := ∀ z8 : Int32, z8 = t0 + t1 → wp_X9_isOpen v0 x3 (fun r9 => ((¬ r9 = x1) → ∀ z12 : Int32, z12 = x2 + (0 : Int32) → ∀ z13 : Int32, z13 = x3 + (1 : Int32) → K4 z12 z13) ∧ ((r9 = x1) → ∀ z14 : Int32, z14 = x2 + z8 → ∀ z15 : Int32, z15 = x3 + (1 : Int32) → K4 z14 z15))
def wp_X9_cords_B26 (v0 : ModV) (x1 : Int32) (x2 : Int32) (x3 : Int32) (t0 : Int32) (Q : Int32 → Prop) (K4 : Int32 → Int32 → Prop) : Prop := wp_X9_of v0 x3 (4 : Int32) (fun r5 => ((¬ r5 = (-4 : Int32)) → wp_X9_cords_B42 v0 x1 x2 x3 t0 (1 : Int32) Q K4) ∧ ((r5 = (-4 : Int32)) → wp_X9_cords_B42 v0 x1 x2 x3 t0 (0 : Int32) Q K4))
def wp_X9_cords_L4 (v0 : ModV) (x1 : Int32) (Q : Int32 → Prop) : Nat → Int32 → Int32 → Prop
  | 0, _, _ => False
  | n + 1, x2, x3 => (((10 : Int32) ≤ x3) → Q x2) ∧ ((¬ (10 : Int32) ≤ x3) → wp_X9_of v0 x3 (3 : Int32) (fun r2 => ((¬ r2 = (-4 : Int32)) → wp_X9_cords_B26 v0 x1 x2 x3 (1 : Int32) Q (wp_X9_cords_L4 v0 x1 Q n)) ∧ ((r2 = (-4 : Int32)) → wp_X9_cords_B26 v0 x1 x2 x3 (0 : Int32) Q (wp_X9_cords_L4 v0 x1 Q n))))
def wp_X9_cords (v0 : ModV) (i0 : Int32) (Q : Int32 → Prop) : Prop := ∃ k : Nat, wp_X9_cords_L4 v0 i0 Q k (0 : Int32) (0 : Int32)
def wp_X9_held_L4 (v0 : ModV) (Q : Int32 → Prop) : Nat → Int32 → Int32 → Prop
  | 0, _, _ => False
  | n + 1, x1, x2 => (((10 : Int32) ≤ x2) → Q x1) ∧ ((¬ (10 : Int32) ≤ x2) → wp_X9_cordsTo v0 x2 (1 : Int32) (fun r2 => ((r2 ≤ 0) → ∀ z5 : Int32, z5 = x1 + (0 : Int32) → ∀ z6 : Int32, z6 = x2 + (1 : Int32) → (wp_X9_held_L4 v0 Q n) z5 z6) ∧ ((¬ r2 ≤ 0) → ∀ z7 : Int32, z7 = x1 + (1 : Int32) → ∀ z8 : Int32, z8 = x2 + (1 : Int32) → (wp_X9_held_L4 v0 Q n) z7 z8)))
def wp_X9_held (v0 : ModV) (Q : Int32 → Prop) : Prop := ∃ k : Nat, wp_X9_held_L4 v0 Q k (0 : Int32) (0 : Int32)
def wp_X9_pairsOfHalls_L4 (v0 : ModV) (Q : Int32 → Prop) : Nat → Int32 → Int32 → Prop
  | 0, _, _ => False
  | n + 1, x1, x2 => (((6 : Int32) ≤ x2) → Q (x1 / (2 : Int32))) ∧ ((¬ (6 : Int32) ≤ x2) → wp_X9_hangs v0 x2 (fun r2 => wp_X9_size r2 (fun r4 => ∀ z6 : Int32, z6 = x1 + (r4 - (1 : Int32)) → ∀ z7 : Int32, z7 = x2 + (1 : Int32) → (wp_X9_pairsOfHalls_L4 v0 Q n) z6 z7)))
def wp_X9_pairsOfHalls (v0 : ModV) (Q : Int32 → Prop) : Prop := ∃ k : Nat, wp_X9_pairsOfHalls_L4 v0 Q k (0 : Int32) (0 : Int32)
def wp_X9_pairsOfDoors_L12 (v0 : ModV) (x2 : Int32) (Q : Int32 → Prop) (K4 : Int32 → Int32 → Prop) : Nat → Int32 → Int32 → Prop
  | 0, _, _ => False
  | n + 1, x1, x3 => ((x2 ≤ x3) → ∀ z3 : Int32, z3 = x2 + (1 : Int32) → K4 x1 z3) ∧ ((¬ x2 ≤ x3) → wp_X9_goesTo v0 x2 x3 (fun r4 => ((r4 = 0) → ∀ z7 : Int32, z7 = x1 + (0 : Int32) → ∀ z8 : Int32, z8 = x3 + (1 : Int32) → (wp_X9_pairsOfDoors_L12 v0 x2 Q K4 n) z7 z8) ∧ ((¬ r4 = 0) → wp_X9_goesTo v0 x3 x2 (fun r9 => ((r9 = 0) → ∀ z12 : Int32, z12 = x1 + (0 : Int32) → ∀ z13 : Int32, z13 = x3 + (1 : Int32) → (wp_X9_pairsOfDoors_L12 v0 x2 Q K4 n) z12 z13) ∧ ((¬ r9 = 0) → ∀ z14 : Int32, z14 = x1 + (1 : Int32) → ∀ z15 : Int32, z15 = x3 + (1 : Int32) → (wp_X9_pairsOfDoors_L12 v0 x2 Q K4 n) z14 z15)))))
def wp_X9_pairsOfDoors_L4 (v0 : ModV) (Q : Int32 → Prop) : Nat → Int32 → Int32 → Prop
  | 0, _, _ => False
  | n + 1, x1, x2 => (((10 : Int32) ≤ x2) → Q x1) ∧ ((¬ (10 : Int32) ≤ x2) → ∃ k : Nat, wp_X9_pairsOfDoors_L12 v0 x2 Q (wp_X9_pairsOfDoors_L4 v0 Q n) k x1 (0 : Int32))
def wp_X9_pairsOfDoors (v0 : ModV) (Q : Int32 → Prop) : Prop := ∃ k : Nat, wp_X9_pairsOfDoors_L4 v0 Q k (0 : Int32) (0 : Int32)
def wp_X9_count (v0 : ModV) (i0 : Int32) (Q : Int32 → Prop) : Prop := (i0 = (0 : Int32) → wp_X9_openSet v0 (fun r2 => Q r2)) ∧ (i0 = (1 : Int32) → wp_X9_openSet v0 (fun r5 => wp_X9_size r5 (fun r7 => Q r7))) ∧ (i0 = (2 : Int32) → ((¬ i0 = (2 : Int32)) → wp_X9_cords v0 (0 : Int32) (fun r11 => Q r11)) ∧ ((i0 = (2 : Int32)) → wp_X9_cords v0 (1 : Int32) (fun r13 => Q r13))) ∧ (i0 = (3 : Int32) → ((¬ i0 = (2 : Int32)) → wp_X9_cords v0 (0 : Int32) (fun r17 => Q r17)) ∧ ((i0 = (2 : Int32)) → wp_X9_cords v0 (1 : Int32) (fun r19 => Q r19))) ∧ (i0 = (4 : Int32) → wp_X9_held v0 (fun r22 => Q r22)) ∧ (i0 = (5 : Int32) → wp_X9_pairsOfHalls v0 (fun r25 => Q r25)) ∧ (i0 = (6 : Int32) → wp_X9_pairsOfDoors v0 (fun r28 => Q r28)) ∧ (i0 = (7 : Int32) → vp_in (((1 : Int32) + i0) - (7 : Int32)) 85 ∧ (Q (v0.1 (((1 : Int32) + i0) - (7 : Int32)).toNatClampNeg))) ∧ (i0 = (8 : Int32) → vp_in (((1 : Int32) + i0) - (7 : Int32)) 85 ∧ (Q (v0.1 (((1 : Int32) + i0) - (7 : Int32)).toNatClampNeg))) ∧ (i0 = (9 : Int32) → vp_in (((1 : Int32) + i0) - (7 : Int32)) 85 ∧ (Q (v0.1 (((1 : Int32) + i0) - (7 : Int32)).toNatClampNeg))) ∧ (i0 = (10 : Int32) → vp_in (((1 : Int32) + i0) - (7 : Int32)) 85 ∧ (Q (v0.1 (((1 : Int32) + i0) - (7 : Int32)).toNatClampNeg))) ∧ (i0 = (11 : Int32) → vp_in (((1 : Int32) + i0) - (7 : Int32)) 85 ∧ (Q (v0.1 (((1 : Int32) + i0) - (7 : Int32)).toNatClampNeg))) ∧ (i0 = (12 : Int32) → vp_in (0 : Int32) 85 ∧ (Q (v0.1 (0 : Int32).toNatClampNeg))) ∧ (i0 = (13 : Int32) → Q v0.2.2.2.2.2.2.2.1) ∧ (i0 = (14 : Int32) → Q v0.2.2.2.1) ∧ (¬ i0 = (0 : Int32) → ¬ i0 = (1 : Int32) → ¬ i0 = (2 : Int32) → ¬ i0 = (3 : Int32) → ¬ i0 = (4 : Int32) → ¬ i0 = (5 : Int32) → ¬ i0 = (6 : Int32) → ¬ i0 = (7 : Int32) → ¬ i0 = (8 : Int32) → ¬ i0 = (9 : Int32) → ¬ i0 = (10 : Int32) → ¬ i0 = (11 : Int32) → ¬ i0 = (12 : Int32) → ¬ i0 = (13 : Int32) → ¬ i0 = (14 : Int32) → Q (-1 : Int32))
def wp_X9_tightness (v0 : ModV) (Q : UInt64 → Prop) : Prop := wp_X9_cords v0 (1 : Int32) (fun r1 => ∀ z3 : UInt64, z3 = FP.i2d r1 → wp_X9_cords v0 (1 : Int32) (fun r4 => wp_X9_cords v0 (0 : Int32) (fun r6 => ∀ z8 : UInt64, z8 = FP.i2d (r4 + r6) → ((¬ (Op.cmpValue (FP.dcmp z8 (0 : UInt64)) CmpOp.l) = 0) → isNaN64 (FP.ddiv z3 z8) = false ∧ (Q (FP.ddiv z3 z8))) ∧ (((Op.cmpValue (FP.dcmp z8 (0 : UInt64)) CmpOp.l) = 0) → Q (0 : UInt64)))))
def wp_X9_ifOpened (v0 : ModV) (i0 : Int32) (i1 : Int32) (Q : Int32 → ModV → Prop) : Prop := wp_X9_isDoor i0 (fun r1 => ((r1 = 0) → Q (-1 : Int32) v0) ∧ ((¬ r1 = 0) → wp_X9_in i1 (0 : Int32) (2 : Int32) (fun r4 => ((¬ r4 = 0) → wp_X9_reason v0 i0 (fun r7 => ((r7 ≤ 0) → wp_X9_copyState 85 85 v0.1 v0.2.1 (0 : Int32) (0 : Int32) (fun u11 => wp_X9_opens (v0.1, u11, v0.2.2.1, v0.2.2.2.1, v0.2.2.2.2.1, v0.2.2.2.2.2.1, v0.2.2.2.2.2.2.1, v0.2.2.2.2.2.2.2.1, v0.2.2.2.2.2.2.2.2.1, v0.2.2.2.2.2.2.2.2.2.1, v0.2.2.2.2.2.2.2.2.2.2.1, v0.2.2.2.2.2.2.2.2.2.2.2.1, v0.2.2.2.2.2.2.2.2.2.2.2.2.1, v0.2.2.2.2.2.2.2.2.2.2.2.2.2.1, v0.2.2.2.2.2.2.2.2.2.2.2.2.2.2.1, v0.2.2.2.2.2.2.2.2.2.2.2.2.2.2.2.1, v0.2.2.2.2.2.2.2.2.2.2.2.2.2.2.2.2) i0 (fun r12 u13 => ((¬ i1 = 0) → ((¬ i1 = (1 : Int32)) → vp_in (4 : Int32) 85 ∧ (vp_in (4 : Int32) 85 ∧ (∀ z18 : Int32, z18 = (u13.1 (4 : Int32).toNatClampNeg) - (u13.2.1 (4 : Int32).toNatClampNeg) → wp_X9_copyState 85 85 u13.2.1 u13.1 (0 : Int32) (0 : Int32) (fun u20 => Q z18 (u20, u13.2.1, u13.2.2.1, u13.2.2.2.1, u13.2.2.2.2.1, u13.2.2.2.2.2.1, u13.2.2.2.2.2.2.1, u13.2.2.2.2.2.2.2.1, u13.2.2.2.2.2.2.2.2.1, u13.2.2.2.2.2.2.2.2.2.1, u13.2.2.2.2.2.2.2.2.2.2.1, u13.2.2.2.2.2.2.2.2.2.2.2.1, u13.2.2.2.2.2.2.2.2.2.2.2.2.1, u13.2.2.2.2.2.2.2.2.2.2.2.2.2.1, u13.2.2.2.2.2.2.2.2.2.2.2.2.2.2.1, u13.2.2.2.2.2.2.2.2.2.2.2.2.2.2.2.1, u13.2.2.2.2.2.2.2.2.2.2.2.2.2.2.2.2))))) ∧ ((i1 = (1 : Int32)) → vp_in (3 : Int32) 85 ∧ (vp_in (3 : Int32) 85 ∧ (∀ z23 : Int32, z23 = (u13.1 (3 : Int32).toNatClampNeg) - (u13.2.1 (3 : Int32).toNatClampNeg) → wp_X9_copyState 85 85 u13.2.1 u13.1 (0 : Int32) (0 : Int32) (fun u25 => Q z23 (u25, u13.2.1, u13.2.2.1, u13.2.2.2.1, u13.2.2.2.2.1, u13.2.2.2.2.2.1, u13.2.2.2.2.2.2.1, u13.2.2.2.2.2.2.2.1, u13.2.2.2.2.2.2.2.2.1, u13.2.2.2.2.2.2.2.2.2.1, u13.2.2.2.2.2.2.2.2.2.2.1, u13.2.2.2.2.2.2.2.2.2.2.2.1, u13.2.2.2.2.2.2.2.2.2.2.2.2.1, u13.2.2.2.2.2.2.2.2.2.2.2.2.2.1, u13.2.2.2.2.2.2.2.2.2.2.2.2.2.2.1, u13.2.2.2.2.2.2.2.2.2.2.2.2.2.2.2.1, u13.2.2.2.2.2.2.2.2.2.2.2.2.2.2.2.2)))))) ∧ ((i1 = 0) → wp_X9_openSet u13 (fun r26 => wp_X9_copyState 85 85 u13.2.1 u13.1 (0 : Int32) (0 : Int32) (fun u29 => Q r26 (u29, u13.2.1, u13.2.2.1, u13.2.2.2.1, u13.2.2.2.2.1, u13.2.2.2.2.2.1, u13.2.2.2.2.2.2.1, u13.2.2.2.2.2.2.2.1, u13.2.2.2.2.2.2.2.2.1, u13.2.2.2.2.2.2.2.2.2.1, u13.2.2.2.2.2.2.2.2.2.2.1, u13.2.2.2.2.2.2.2.2.2.2.2.1, u13.2.2.2.2.2.2.2.2.2.2.2.2.1, u13.2.2.2.2.2.2.2.2.2.2.2.2.2.1, u13.2.2.2.2.2.2.2.2.2.2.2.2.2.2.1, u13.2.2.2.2.2.2.2.2.2.2.2.2.2.2.2.1, u13.2.2.2.2.2.2.2.2.2.2.2.2.2.2.2.2))))))) ∧ ((¬ r7 ≤ 0) → ((¬ i1 = 0) → Q (0 : Int32) v0) ∧ ((i1 = 0) → wp_X9_openSet v0 (fun r31 => Q r31 v0))))) ∧ ((r4 = 0) → Q (-1 : Int32) v0))))
end
section
set_option maxHeartbeats 4000000 in
set_option maxRecDepth 100000 in
theorem c_J6_bitCount_0f7a4 (l : Launch) (G : GG) (i0 : Int32) (Q : Int32 → Prop) (hw : wp_J6_bitCount_0f7a4 i0 Q) : Con l G yJ6_bitCount_0f7a4 cJ6_bitCount_0f7a4 1 (some .int) { frames := 0, cells := 0, slots := 0, locals := 0 } [.int i0] ([]) (PI (fun _ : Unit => []) (fun r _ => Q r)) 0 0 := by
  refine con_of RJ6 rfl (by decide) [(0, .int i0)] rfl (Nat.le_of_ble_eq_true rfl) ?_
  intro p e s m args below meth c S hname
  refine v_iload_n (pc2 := 1) S 0 dJ6_bitCount_0f7a4_0 rfl rfl rfl ?_
  refine v_iload_n (pc2 := 2) S 0 dJ6_bitCount_0f7a4_1 rfl rfl rfl ?_
  refine v_iconst (v := 1) (pc2 := 3) S dJ6_bitCount_0f7a4_2 (by decide) rfl ?_
  refine v_iushr (pc2 := 4) S dJ6_bitCount_0f7a4_3 rfl ?_
  refine v_ldcw (pc2 := 7) S u_369 dJ6_bitCount_0f7a4_4 rfl ?_
  refine v_iand (pc2 := 8) S dJ6_bitCount_0f7a4_7 rfl ?_
  refine v_isub (pc2 := 9) S dJ6_bitCount_0f7a4_8 rfl ?_
  refine v_nm (fun z1 ez1 => ?_)
  have hw := hw z1 ez1
  refine v_istore_n (lv2 := [(0, .int z1)]) (pc2 := 10) S dJ6_bitCount_0f7a4_9 rfl (by decide) [0] rfl rfl ?_
  refine v_iload_n (pc2 := 11) S 0 dJ6_bitCount_0f7a4_10 rfl rfl rfl ?_
  refine v_ldcw (pc2 := 14) S u_370 dJ6_bitCount_0f7a4_11 rfl ?_
  refine v_iand (pc2 := 15) S dJ6_bitCount_0f7a4_14 rfl ?_
  refine v_iload_n (pc2 := 16) S 0 dJ6_bitCount_0f7a4_15 rfl rfl rfl ?_
  refine v_iconst (v := 2) (pc2 := 17) S dJ6_bitCount_0f7a4_16 (by decide) rfl ?_
  refine v_iushr (pc2 := 18) S dJ6_bitCount_0f7a4_17 rfl ?_
  refine v_ldcw (pc2 := 21) S u_370 dJ6_bitCount_0f7a4_18 rfl ?_
  refine v_iand (pc2 := 22) S dJ6_bitCount_0f7a4_21 rfl ?_
  refine v_iadd (pc2 := 23) S dJ6_bitCount_0f7a4_22 rfl ?_
  refine v_nm (fun z2 ez2 => ?_)
  have hw := hw z2 ez2
  refine v_istore_n (lv2 := [(0, .int z2)]) (pc2 := 24) S dJ6_bitCount_0f7a4_23 rfl (by decide) [0] rfl rfl ?_
  refine v_iload_n (pc2 := 25) S 0 dJ6_bitCount_0f7a4_24 rfl rfl rfl ?_
  refine v_iload_n (pc2 := 26) S 0 dJ6_bitCount_0f7a4_25 rfl rfl rfl ?_
  refine v_iconst (v := 4) (pc2 := 27) S dJ6_bitCount_0f7a4_26 (by decide) rfl ?_
  refine v_iushr (pc2 := 28) S dJ6_bitCount_0f7a4_27 rfl ?_
  refine v_iadd (pc2 := 29) S dJ6_bitCount_0f7a4_28 rfl ?_
  refine v_ldcw (pc2 := 32) S u_371 dJ6_bitCount_0f7a4_29 rfl ?_
  refine v_iand (pc2 := 33) S dJ6_bitCount_0f7a4_32 rfl ?_
  refine v_nm (fun z3 ez3 => ?_)
  have hw := hw z3 ez3
  refine v_istore_n (lv2 := [(0, .int z3)]) (pc2 := 34) S dJ6_bitCount_0f7a4_33 rfl (by decide) [0] rfl rfl ?_
  refine v_iload_n (pc2 := 35) S 0 dJ6_bitCount_0f7a4_34 rfl rfl rfl ?_
  refine v_iload_n (pc2 := 36) S 0 dJ6_bitCount_0f7a4_35 rfl rfl rfl ?_
  refine v_bipush (v := 8) (pc2 := 38) S dJ6_bitCount_0f7a4_36 (by decide) rfl ?_
  refine v_iushr (pc2 := 39) S dJ6_bitCount_0f7a4_38 rfl ?_
  refine v_iadd (pc2 := 40) S dJ6_bitCount_0f7a4_39 rfl ?_
  refine v_nm (fun z4 ez4 => ?_)
  have hw := hw z4 ez4
  refine v_istore_n (lv2 := [(0, .int z4)]) (pc2 := 41) S dJ6_bitCount_0f7a4_40 rfl (by decide) [0] rfl rfl ?_
  refine v_iload_n (pc2 := 42) S 0 dJ6_bitCount_0f7a4_41 rfl rfl rfl ?_
  refine v_iload_n (pc2 := 43) S 0 dJ6_bitCount_0f7a4_42 rfl rfl rfl ?_
  refine v_bipush (v := 16) (pc2 := 45) S dJ6_bitCount_0f7a4_43 (by decide) rfl ?_
  refine v_iushr (pc2 := 46) S dJ6_bitCount_0f7a4_45 rfl ?_
  refine v_iadd (pc2 := 47) S dJ6_bitCount_0f7a4_46 rfl ?_
  refine v_nm (fun z5 ez5 => ?_)
  have hw := hw z5 ez5
  refine v_istore_n (lv2 := [(0, .int z5)]) (pc2 := 48) S dJ6_bitCount_0f7a4_47 rfl (by decide) [0] rfl rfl ?_
  refine v_iload_n (pc2 := 49) S 0 dJ6_bitCount_0f7a4_48 rfl rfl rfl ?_
  refine v_bipush (v := 63) (pc2 := 51) S dJ6_bitCount_0f7a4_49 (by decide) rfl ?_
  refine v_iand (pc2 := 52) S dJ6_bitCount_0f7a4_51 rfl ?_
  exact v_iret S ⟨z5 &&& (63 : Int32), (), rfl, rfl, hw⟩ dJ6_bitCount_0f7a4_52
set_option maxHeartbeats 4000000 in
set_option maxRecDepth 100000 in
theorem c_X8_has (l : Launch) (G : GG) (i0 : Int32) (i1 : Int32) (Q : Int32 → Prop) (hw : wp_X8_has i0 i1 Q) : Con l G yX8_has cX8_has 2 (some .boolean) { frames := 0, cells := 0, slots := 0, locals := 0 } [.int i0, .int i1] ([]) (PB (fun _ : Unit => []) (fun r _ => Q r)) 0 0 := by
  refine con_of RX8 rfl (by decide) [(0, .int i0), (1, .int i1)] rfl (Nat.le_of_ble_eq_true rfl) ?_
  intro p e s m args below meth c S hname
  refine v_iload_n (pc2 := 1) S 0 dX8_has_0 rfl rfl rfl ?_
  refine v_iload_n (pc2 := 2) S 1 dX8_has_1 rfl rfl rfl ?_
  refine v_ishr (pc2 := 3) S dX8_has_2 rfl ?_
  refine v_iconst (v := 1) (pc2 := 4) S dX8_has_3 (by decide) rfl ?_
  refine v_iand (pc2 := 5) S dX8_has_4 rfl ?_
  refine v_if_eq (pc2 := 8) (tgt := 12) S dX8_has_5 (by decide) rfl (fun c1 => ?_) (fun c1 => ?_)
  · have hw := hw.1 c1
    refine v_iconst (v := 0) (pc2 := 13) S dX8_has_12 (by decide) rfl ?_
    exact v_zret S (by decide) ⟨(0 : Int32), (), rfl, (by decide), rfl, hw⟩ dX8_has_13
  · have hw := hw.2 c1
    refine v_iconst (v := 1) (pc2 := 9) S dX8_has_8 (by decide) rfl ?_
    refine v_goto (tgt := 13) S dX8_has_9 (by decide) ?_
    exact v_zret S (by decide) ⟨(1 : Int32), (), rfl, (by decide), rfl, hw⟩ dX8_has_13
set_option maxHeartbeats 4000000 in
set_option maxRecDepth 100000 in
theorem c_X3_hang (l : Launch) (G : GG) (a0 : LoomA) (v0 : LoomV) (i0 : Int32) (i1 : Int32) (i2 : Int32) (Q : LoomV → Prop) (hw : wp_X3_hang v0 i0 i1 i2 Q) : Con l G yX3_hang cX3_hang 4 none { frames := 1, cells := 0, slots := 0, locals := 21 } [.ref a0.1, .int i0, .int i1, .int i2] (wLoom G a0 v0) (PV (fun u : LoomV => wLoom G a0 u) Q) 0 0 := by
  refine con_of RX3 rfl (by decide) [(0, .ref a0.1), (1, .int i0), (2, .int i1), (3, .int i2)] rfl (Nat.le_of_ble_eq_true rfl) ?_
  intro p e s m args below meth c S hname
  refine v_aload_n (pc2 := 1) S 0 dX3_hang_0 rfl rfl rfl ?_
  refine v_get (v := .ref a0.2.2.2.2.2) (pc2 := 4) S gf_X3_24 0 rfl rfl dX3_hang_1 rfl ?_
  refine v_aload_n (pc2 := 5) S 0 dX3_hang_4 rfl rfl rfl ?_
  refine v_get (v := .ref a0.2.2.2.1) (pc2 := 8) S gf_X3_18 0 rfl rfl dX3_hang_5 rfl ?_
  refine v_iload_n (pc2 := 9) S 1 dX3_hang_8 rfl rfl rfl ?_
  obtain ⟨h1, hw⟩ := hw
  refine v_iald (pc2 := 10) S 3 rfl h1 dX3_hang_9 rfl ?_
  refine v_dup2 (pc2 := 11) S dX3_hang_10 rfl rfl rfl ?_
  obtain ⟨h2, hw⟩ := hw
  refine v_iald (pc2 := 12) S 5 rfl h2 dX3_hang_11 rfl ?_
  refine v_iconst (v := 1) (pc2 := 13) S dX3_hang_12 (by decide) rfl ?_
  refine v_iload_n (pc2 := 14) S 1 dX3_hang_13 rfl rfl rfl ?_
  refine v_ishl (pc2 := 15) S dX3_hang_14 rfl ?_
  refine v_iconst (v := -1) (pc2 := 16) S dX3_hang_15 (by decide) rfl ?_
  refine v_ixor (pc2 := 17) S dX3_hang_16 rfl ?_
  refine v_iand (pc2 := 18) S dX3_hang_17 rfl ?_
  obtain ⟨h3, hw⟩ := hw
  obtain ⟨g4, eg4⟩ : ∃ y : Nat → Int32, y = upd v0.2.2.2.2.1 (v0.2.2.1 i0.toNatClampNeg).toNatClampNeg ((v0.2.2.2.2.1 (v0.2.2.1 i0.toNatClampNeg).toNatClampNeg) &&& (((1 : Int32) <<< (i0 &&& 31)) ^^^ (-1 : Int32))) := ⟨_, rfl⟩
  have hw := hw g4 eg4
  refine v_iast (ws2 := wLoom G a0 (v0.1, v0.2.1, v0.2.2.1, v0.2.2.2.1, g4, v0.2.2.2.2.2)) (pc2 := 19) S 5 rfl h3 (by rw [eg4] <;> rfl) dX3_hang_18 rfl ?_
  refine v_aload_n (pc2 := 20) S 0 dX3_hang_19 rfl rfl rfl ?_
  refine v_get (v := .ref a0.2.2.2.2.2) (pc2 := 23) S gf_X3_24 0 rfl rfl dX3_hang_20 rfl ?_
  refine v_aload_n (pc2 := 24) S 0 dX3_hang_23 rfl rfl rfl ?_
  refine v_get (v := .ref a0.2.2.2.2.1) (pc2 := 27) S gf_X3_21 0 rfl rfl dX3_hang_24 rfl ?_
  refine v_iload_n (pc2 := 28) S 1 dX3_hang_27 rfl rfl rfl ?_
  obtain ⟨h5, hw⟩ := hw
  refine v_iald (pc2 := 29) S 4 rfl h5 dX3_hang_28 rfl ?_
  refine v_dup2 (pc2 := 30) S dX3_hang_29 rfl rfl rfl ?_
  obtain ⟨h6, hw⟩ := hw
  refine v_iald (pc2 := 31) S 5 rfl h6 dX3_hang_30 rfl ?_
  refine v_iconst (v := 1) (pc2 := 32) S dX3_hang_31 (by decide) rfl ?_
  refine v_iload_n (pc2 := 33) S 1 dX3_hang_32 rfl rfl rfl ?_
  refine v_ishl (pc2 := 34) S dX3_hang_33 rfl ?_
  refine v_iconst (v := -1) (pc2 := 35) S dX3_hang_34 (by decide) rfl ?_
  refine v_ixor (pc2 := 36) S dX3_hang_35 rfl ?_
  refine v_iand (pc2 := 37) S dX3_hang_36 rfl ?_
  obtain ⟨h7, hw⟩ := hw
  obtain ⟨g8, eg8⟩ : ∃ y : Nat → Int32, y = upd g4 (v0.2.2.2.1 i0.toNatClampNeg).toNatClampNeg ((g4 (v0.2.2.2.1 i0.toNatClampNeg).toNatClampNeg) &&& (((1 : Int32) <<< (i0 &&& 31)) ^^^ (-1 : Int32))) := ⟨_, rfl⟩
  have hw := hw g8 eg8
  refine v_iast (ws2 := wLoom G a0 (v0.1, v0.2.1, v0.2.2.1, v0.2.2.2.1, g8, v0.2.2.2.2.2)) (pc2 := 38) S 5 rfl h7 (by rw [eg8] <;> rfl) dX3_hang_37 rfl ?_
  refine v_aload_n (pc2 := 39) S 0 dX3_hang_38 rfl rfl rfl ?_
  refine v_get (v := .ref a0.2.2.2.1) (pc2 := 42) S gf_X3_18 0 rfl rfl dX3_hang_39 rfl ?_
  refine v_iload_n (pc2 := 43) S 1 dX3_hang_42 rfl rfl rfl ?_
  refine v_iload_n (pc2 := 44) S 2 dX3_hang_43 rfl rfl rfl ?_
  refine v_iload_n (pc2 := 45) S 3 dX3_hang_44 rfl rfl rfl ?_
  refine v_min (pc2 := 48) S u_98 u_99 u_63 u_100 (Nat.le_of_ble_eq_true rfl) (Nat.le_of_ble_eq_true rfl) (Nat.zero_le _) (Nat.zero_le _) dX3_hang_45 rfl ?_
  obtain ⟨h9, hw⟩ := hw
  obtain ⟨g10, eg10⟩ : ∃ y : Nat → Int32, y = upd v0.2.2.1 i0.toNatClampNeg (if i2 < i1 then i2 else i1) := ⟨_, rfl⟩
  have hw := hw g10 eg10
  refine v_iast (ws2 := wLoom G a0 (v0.1, v0.2.1, g10, v0.2.2.2.1, g8, v0.2.2.2.2.2)) (pc2 := 49) S 3 rfl h9 (by rw [eg10] <;> rfl) dX3_hang_48 rfl ?_
  refine v_aload_n (pc2 := 50) S 0 dX3_hang_49 rfl rfl rfl ?_
  refine v_get (v := .ref a0.2.2.2.2.1) (pc2 := 53) S gf_X3_21 0 rfl rfl dX3_hang_50 rfl ?_
  refine v_iload_n (pc2 := 54) S 1 dX3_hang_53 rfl rfl rfl ?_
  refine v_iload_n (pc2 := 55) S 2 dX3_hang_54 rfl rfl rfl ?_
  refine v_iload_n (pc2 := 56) S 3 dX3_hang_55 rfl rfl rfl ?_
  refine v_max (pc2 := 59) S u_101 u_102 u_63 u_103 (Nat.le_of_ble_eq_true rfl) (Nat.le_of_ble_eq_true rfl) (Nat.zero_le _) (Nat.zero_le _) dX3_hang_56 rfl ?_
  obtain ⟨h11, hw⟩ := hw
  obtain ⟨g12, eg12⟩ : ∃ y : Nat → Int32, y = upd v0.2.2.2.1 i0.toNatClampNeg (if i1 < i2 then i2 else i1) := ⟨_, rfl⟩
  have hw := hw g12 eg12
  refine v_iast (ws2 := wLoom G a0 (v0.1, v0.2.1, g10, g12, g8, v0.2.2.2.2.2)) (pc2 := 60) S 4 rfl h11 (by rw [eg12] <;> rfl) dX3_hang_59 rfl ?_
  refine v_aload_n (pc2 := 61) S 0 dX3_hang_60 rfl rfl rfl ?_
  refine v_get (v := .ref a0.2.2.2.2.2) (pc2 := 64) S gf_X3_24 0 rfl rfl dX3_hang_61 rfl ?_
  refine v_iload_n (pc2 := 65) S 2 dX3_hang_64 rfl rfl rfl ?_
  refine v_dup2 (pc2 := 66) S dX3_hang_65 rfl rfl rfl ?_
  obtain ⟨h13, hw⟩ := hw
  refine v_iald (pc2 := 67) S 5 rfl h13 dX3_hang_66 rfl ?_
  refine v_iconst (v := 1) (pc2 := 68) S dX3_hang_67 (by decide) rfl ?_
  refine v_iload_n (pc2 := 69) S 1 dX3_hang_68 rfl rfl rfl ?_
  refine v_ishl (pc2 := 70) S dX3_hang_69 rfl ?_
  refine v_ior (pc2 := 71) S dX3_hang_70 rfl ?_
  obtain ⟨h14, hw⟩ := hw
  obtain ⟨g15, eg15⟩ : ∃ y : Nat → Int32, y = upd g8 i1.toNatClampNeg ((g8 i1.toNatClampNeg) ||| ((1 : Int32) <<< (i0 &&& 31))) := ⟨_, rfl⟩
  have hw := hw g15 eg15
  refine v_iast (ws2 := wLoom G a0 (v0.1, v0.2.1, g10, g12, g15, v0.2.2.2.2.2)) (pc2 := 72) S 5 rfl h14 (by rw [eg15] <;> rfl) dX3_hang_71 rfl ?_
  refine v_aload_n (pc2 := 73) S 0 dX3_hang_72 rfl rfl rfl ?_
  refine v_get (v := .ref a0.2.2.2.2.2) (pc2 := 76) S gf_X3_24 0 rfl rfl dX3_hang_73 rfl ?_
  refine v_iload_n (pc2 := 77) S 3 dX3_hang_76 rfl rfl rfl ?_
  refine v_dup2 (pc2 := 78) S dX3_hang_77 rfl rfl rfl ?_
  obtain ⟨h16, hw⟩ := hw
  refine v_iald (pc2 := 79) S 5 rfl h16 dX3_hang_78 rfl ?_
  refine v_iconst (v := 1) (pc2 := 80) S dX3_hang_79 (by decide) rfl ?_
  refine v_iload_n (pc2 := 81) S 1 dX3_hang_80 rfl rfl rfl ?_
  refine v_ishl (pc2 := 82) S dX3_hang_81 rfl ?_
  refine v_ior (pc2 := 83) S dX3_hang_82 rfl ?_
  obtain ⟨h17, hw⟩ := hw
  obtain ⟨g18, eg18⟩ : ∃ y : Nat → Int32, y = upd g15 i2.toNatClampNeg ((g15 i2.toNatClampNeg) ||| ((1 : Int32) <<< (i0 &&& 31))) := ⟨_, rfl⟩
  have hw := hw g18 eg18
  refine v_iast (ws2 := wLoom G a0 (v0.1, v0.2.1, g10, g12, g18, v0.2.2.2.2.2)) (pc2 := 84) S 5 rfl h17 (by rw [eg18] <;> rfl) dX3_hang_83 rfl ?_
  exact v_vret S ⟨(v0.1, v0.2.1, g10, g12, g18, v0.2.2.2.2.2), rfl, rfl, hw⟩ dX3_hang_84
set_option maxHeartbeats 4000000 in
set_option maxRecDepth 100000 in
theorem c_X3_copy (l : Launch) (G : GG) (a0 : LoomA) (a1 : LoomA) (v0 : LoomV) (v1 : LoomV) (Q : LoomV → Prop) (hw : wp_X3_copy v0 v1 Q) : Con l G yX3_copy cX3_copy 2 none { frames := 1, cells := 0, slots := 0, locals := 60 } [.ref a0.1, .ref a1.1] (wLoom G a0 v0 ++ wLoom G a1 v1) (PV (fun u : LoomV => wLoom G a0 u ++ wLoom G a1 v1) Q) 0 0 := by
  refine con_of RX3 rfl (by decide) [(0, .ref a0.1), (1, .ref a1.1)] rfl (Nat.le_of_ble_eq_true rfl) ?_
  intro p e s m args below meth c S hname
  refine v_aload_n (pc2 := 1) S 1 dX3_copy_0 rfl rfl rfl ?_
  refine v_get (v := .ref a1.2.1) (pc2 := 4) S gf_X3_9 6 rfl rfl dX3_copy_1 rfl ?_
  refine v_iconst (v := 0) (pc2 := 5) S dX3_copy_4 (by decide) rfl ?_
  refine v_aload_n (pc2 := 6) S 0 dX3_copy_5 rfl rfl rfl ?_
  refine v_get (v := .ref a0.2.1) (pc2 := 9) S gf_X3_9 0 rfl rfl dX3_copy_6 rfl ?_
  refine v_iconst (v := 0) (pc2 := 10) S dX3_copy_9 (by decide) rfl ?_
  refine v_bipush (v := 10) (pc2 := 12) S dX3_copy_10 (by decide) rfl ?_
  obtain ⟨g1, eg1⟩ : ∃ y : Nat → Int32, y = va_cpy v1.1 v0.1 (0 : Int32).toNatClampNeg (0 : Int32).toNatClampNeg (10 : Int32).toNatClampNeg := ⟨_, rfl⟩
  have hw := hw g1 eg1
  refine v_copy (ws2 := wLoom G a0 (g1, v0.2.1, v0.2.2.1, v0.2.2.2.1, v0.2.2.2.2.1, v0.2.2.2.2.2) ++ wLoom G a1 v1) (pc2 := 15) S 7 1 u_309 u_311 u_310 u_71 rfl rfl (by decide) (by decide) (by decide) (by decide) (by decide) (Nat.le_of_ble_eq_true rfl) (by decide +kernel) (by rw [eg1] <;> rfl) dX3_copy_12 rfl ?_
  refine v_aload_n (pc2 := 16) S 1 dX3_copy_15 rfl rfl rfl ?_
  refine v_get (v := .ref a1.2.2.1) (pc2 := 19) S gf_X3_15 6 rfl rfl dX3_copy_16 rfl ?_
  refine v_iconst (v := 0) (pc2 := 20) S dX3_copy_19 (by decide) rfl ?_
  refine v_aload_n (pc2 := 21) S 0 dX3_copy_20 rfl rfl rfl ?_
  refine v_get (v := .ref a0.2.2.1) (pc2 := 24) S gf_X3_15 0 rfl rfl dX3_copy_21 rfl ?_
  refine v_iconst (v := 0) (pc2 := 25) S dX3_copy_24 (by decide) rfl ?_
  refine v_bipush (v := 10) (pc2 := 27) S dX3_copy_25 (by decide) rfl ?_
  obtain ⟨g2, eg2⟩ : ∃ y : Nat → Int32, y = va_cpy v1.2.1 v0.2.1 (0 : Int32).toNatClampNeg (0 : Int32).toNatClampNeg (10 : Int32).toNatClampNeg := ⟨_, rfl⟩
  have hw := hw g2 eg2
  refine v_copy (ws2 := wLoom G a0 (g1, g2, v0.2.2.1, v0.2.2.2.1, v0.2.2.2.2.1, v0.2.2.2.2.2) ++ wLoom G a1 v1) (pc2 := 30) S 8 2 u_309 u_311 u_310 u_71 rfl rfl (by decide) (by decide) (by decide) (by decide) (by decide) (Nat.le_of_ble_eq_true rfl) (by decide +kernel) (by rw [eg2] <;> rfl) dX3_copy_27 rfl ?_
  refine v_aload_n (pc2 := 31) S 1 dX3_copy_30 rfl rfl rfl ?_
  refine v_get (v := .ref a1.2.2.2.1) (pc2 := 34) S gf_X3_18 6 rfl rfl dX3_copy_31 rfl ?_
  refine v_iconst (v := 0) (pc2 := 35) S dX3_copy_34 (by decide) rfl ?_
  refine v_aload_n (pc2 := 36) S 0 dX3_copy_35 rfl rfl rfl ?_
  refine v_get (v := .ref a0.2.2.2.1) (pc2 := 39) S gf_X3_18 0 rfl rfl dX3_copy_36 rfl ?_
  refine v_iconst (v := 0) (pc2 := 40) S dX3_copy_39 (by decide) rfl ?_
  refine v_bipush (v := 10) (pc2 := 42) S dX3_copy_40 (by decide) rfl ?_
  obtain ⟨g3, eg3⟩ : ∃ y : Nat → Int32, y = va_cpy v1.2.2.1 v0.2.2.1 (0 : Int32).toNatClampNeg (0 : Int32).toNatClampNeg (10 : Int32).toNatClampNeg := ⟨_, rfl⟩
  have hw := hw g3 eg3
  refine v_copy (ws2 := wLoom G a0 (g1, g2, g3, v0.2.2.2.1, v0.2.2.2.2.1, v0.2.2.2.2.2) ++ wLoom G a1 v1) (pc2 := 45) S 9 3 u_309 u_311 u_310 u_71 rfl rfl (by decide) (by decide) (by decide) (by decide) (by decide) (Nat.le_of_ble_eq_true rfl) (by decide +kernel) (by rw [eg3] <;> rfl) dX3_copy_42 rfl ?_
  refine v_aload_n (pc2 := 46) S 1 dX3_copy_45 rfl rfl rfl ?_
  refine v_get (v := .ref a1.2.2.2.2.1) (pc2 := 49) S gf_X3_21 6 rfl rfl dX3_copy_46 rfl ?_
  refine v_iconst (v := 0) (pc2 := 50) S dX3_copy_49 (by decide) rfl ?_
  refine v_aload_n (pc2 := 51) S 0 dX3_copy_50 rfl rfl rfl ?_
  refine v_get (v := .ref a0.2.2.2.2.1) (pc2 := 54) S gf_X3_21 0 rfl rfl dX3_copy_51 rfl ?_
  refine v_iconst (v := 0) (pc2 := 55) S dX3_copy_54 (by decide) rfl ?_
  refine v_bipush (v := 10) (pc2 := 57) S dX3_copy_55 (by decide) rfl ?_
  obtain ⟨g4, eg4⟩ : ∃ y : Nat → Int32, y = va_cpy v1.2.2.2.1 v0.2.2.2.1 (0 : Int32).toNatClampNeg (0 : Int32).toNatClampNeg (10 : Int32).toNatClampNeg := ⟨_, rfl⟩
  have hw := hw g4 eg4
  refine v_copy (ws2 := wLoom G a0 (g1, g2, g3, g4, v0.2.2.2.2.1, v0.2.2.2.2.2) ++ wLoom G a1 v1) (pc2 := 60) S 10 4 u_309 u_311 u_310 u_71 rfl rfl (by decide) (by decide) (by decide) (by decide) (by decide) (Nat.le_of_ble_eq_true rfl) (by decide +kernel) (by rw [eg4] <;> rfl) dX3_copy_57 rfl ?_
  refine v_aload_n (pc2 := 61) S 1 dX3_copy_60 rfl rfl rfl ?_
  refine v_get (v := .ref a1.2.2.2.2.2) (pc2 := 64) S gf_X3_24 6 rfl rfl dX3_copy_61 rfl ?_
  refine v_iconst (v := 0) (pc2 := 65) S dX3_copy_64 (by decide) rfl ?_
  refine v_aload_n (pc2 := 66) S 0 dX3_copy_65 rfl rfl rfl ?_
  refine v_get (v := .ref a0.2.2.2.2.2) (pc2 := 69) S gf_X3_24 0 rfl rfl dX3_copy_66 rfl ?_
  refine v_iconst (v := 0) (pc2 := 70) S dX3_copy_69 (by decide) rfl ?_
  refine v_bipush (v := 6) (pc2 := 72) S dX3_copy_70 (by decide) rfl ?_
  obtain ⟨g5, eg5⟩ : ∃ y : Nat → Int32, y = va_cpy v1.2.2.2.2.1 v0.2.2.2.2.1 (0 : Int32).toNatClampNeg (0 : Int32).toNatClampNeg (6 : Int32).toNatClampNeg := ⟨_, rfl⟩
  have hw := hw g5 eg5
  refine v_copy (ws2 := wLoom G a0 (g1, g2, g3, g4, g5, v0.2.2.2.2.2) ++ wLoom G a1 v1) (pc2 := 75) S 11 5 u_309 u_311 u_310 u_71 rfl rfl (by decide) (by decide) (by decide) (by decide) (by decide) (Nat.le_of_ble_eq_true rfl) (by decide +kernel) (by rw [eg5] <;> rfl) dX3_copy_72 rfl ?_
  refine v_aload_n (pc2 := 76) S 0 dX3_copy_75 rfl rfl rfl ?_
  refine v_aload_n (pc2 := 77) S 1 dX3_copy_76 rfl rfl rfl ?_
  refine v_get (v := .int v1.2.2.2.2.2) (pc2 := 80) S gf_X3_27 6 rfl rfl dX3_copy_77 rfl ?_
  refine v_nm (fun z6 ez6 => ?_)
  have hw := hw z6 ez6
  refine v_put (ws2 := wLoom G a0 (g1, g2, g3, g4, g5, z6) ++ wLoom G a1 v1) (pc2 := 83) S gf_X3_27 pf_X3_5 0 rfl rfl rfl (by decide) rfl dX3_copy_80 rfl ?_
  exact v_vret S ⟨(g1, g2, g3, g4, g5, z6), rfl, rfl, hw⟩ dX3_copy_83
set_option maxHeartbeats 4000000 in
set_option maxRecDepth 100000 in
theorem c_X3_lesserHall (l : Launch) (G : GG) (a0 : LoomA) (v0 : LoomV) (i0 : Int32) (Q : Int32 → Prop) (hw : wp_X3_lesserHall v0 i0 Q) : Con l G yX3_lesserHall cX3_lesserHall 2 (some .int) { frames := 0, cells := 0, slots := 0, locals := 0 } [.ref a0.1, .int i0] (wLoom G a0 v0) (PI (fun _ : Unit => wLoom G a0 v0) (fun r _ => Q r)) 0 0 := by
  refine con_of RX3 rfl (by decide) [(0, .ref a0.1), (1, .int i0)] rfl (Nat.le_of_ble_eq_true rfl) ?_
  intro p e s m args below meth c S hname
  refine v_aload_n (pc2 := 1) S 0 dX3_lesserHall_0 rfl rfl rfl ?_
  refine v_get (v := .ref a0.2.2.2.1) (pc2 := 4) S gf_X3_18 0 rfl rfl dX3_lesserHall_1 rfl ?_
  refine v_iload_n (pc2 := 5) S 1 dX3_lesserHall_4 rfl rfl rfl ?_
  obtain ⟨h1, hw⟩ := hw
  refine v_iald (pc2 := 6) S 3 rfl h1 dX3_lesserHall_5 rfl ?_
  exact v_iret S ⟨v0.2.2.1 i0.toNatClampNeg, (), rfl, rfl, hw⟩ dX3_lesserHall_6
set_option maxHeartbeats 4000000 in
set_option maxRecDepth 100000 in
theorem c_X3_greaterHall (l : Launch) (G : GG) (a0 : LoomA) (v0 : LoomV) (i0 : Int32) (Q : Int32 → Prop) (hw : wp_X3_greaterHall v0 i0 Q) : Con l G yX3_greaterHall cX3_greaterHall 2 (some .int) { frames := 0, cells := 0, slots := 0, locals := 0 } [.ref a0.1, .int i0] (wLoom G a0 v0) (PI (fun _ : Unit => wLoom G a0 v0) (fun r _ => Q r)) 0 0 := by
  refine con_of RX3 rfl (by decide) [(0, .ref a0.1), (1, .int i0)] rfl (Nat.le_of_ble_eq_true rfl) ?_
  intro p e s m args below meth c S hname
  refine v_aload_n (pc2 := 1) S 0 dX3_greaterHall_0 rfl rfl rfl ?_
  refine v_get (v := .ref a0.2.2.2.2.1) (pc2 := 4) S gf_X3_21 0 rfl rfl dX3_greaterHall_1 rfl ?_
  refine v_iload_n (pc2 := 5) S 1 dX3_greaterHall_4 rfl rfl rfl ?_
  obtain ⟨h1, hw⟩ := hw
  refine v_iald (pc2 := 6) S 4 rfl h1 dX3_greaterHall_5 rfl ?_
  exact v_iret S ⟨v0.2.2.2.1 i0.toNatClampNeg, (), rfl, rfl, hw⟩ dX3_greaterHall_6
set_option maxHeartbeats 4000000 in
set_option maxRecDepth 100000 in
theorem c_X3_otherHall (l : Launch) (G : GG) (a0 : LoomA) (v0 : LoomV) (i0 : Int32) (i1 : Int32) (Q : Int32 → Prop) (hw : wp_X3_otherHall v0 i0 i1 Q) : Con l G yX3_otherHall cX3_otherHall 3 (some .int) { frames := 0, cells := 0, slots := 0, locals := 0 } [.ref a0.1, .int i0, .int i1] (wLoom G a0 v0) (PI (fun _ : Unit => wLoom G a0 v0) (fun r _ => Q r)) 0 0 := by
  refine con_of RX3 rfl (by decide) [(0, .ref a0.1), (1, .int i0), (2, .int i1)] rfl (Nat.le_of_ble_eq_true rfl) ?_
  intro p e s m args below meth c S hname
  refine v_aload_n (pc2 := 1) S 0 dX3_otherHall_0 rfl rfl rfl ?_
  refine v_get (v := .ref a0.2.2.2.1) (pc2 := 4) S gf_X3_18 0 rfl rfl dX3_otherHall_1 rfl ?_
  refine v_iload_n (pc2 := 5) S 1 dX3_otherHall_4 rfl rfl rfl ?_
  obtain ⟨h1, hw⟩ := hw
  refine v_iald (pc2 := 6) S 3 rfl h1 dX3_otherHall_5 rfl ?_
  refine v_iload_n (pc2 := 7) S 2 dX3_otherHall_6 rfl rfl rfl ?_
  refine v_icmp_ne (pc2 := 10) (tgt := 19) S dX3_otherHall_7 (by decide) rfl (fun c2 => ?_) (fun c2 => ?_)
  · have hw := hw.1 c2
    refine v_aload_n (pc2 := 20) S 0 dX3_otherHall_19 rfl rfl rfl ?_
    refine v_get (v := .ref a0.2.2.2.1) (pc2 := 23) S gf_X3_18 0 rfl rfl dX3_otherHall_20 rfl ?_
    refine v_iload_n (pc2 := 24) S 1 dX3_otherHall_23 rfl rfl rfl ?_
    obtain ⟨h3, hw⟩ := hw
    refine v_iald (pc2 := 25) S 3 rfl h3 dX3_otherHall_24 rfl ?_
    exact v_iret S ⟨v0.2.2.1 i0.toNatClampNeg, (), rfl, rfl, hw⟩ dX3_otherHall_25
  · have hw := hw.2 c2
    refine v_aload_n (pc2 := 11) S 0 dX3_otherHall_10 rfl rfl rfl ?_
    refine v_get (v := .ref a0.2.2.2.2.1) (pc2 := 14) S gf_X3_21 0 rfl rfl dX3_otherHall_11 rfl ?_
    refine v_iload_n (pc2 := 15) S 1 dX3_otherHall_14 rfl rfl rfl ?_
    obtain ⟨h4, hw⟩ := hw
    refine v_iald (pc2 := 16) S 4 rfl h4 dX3_otherHall_15 rfl ?_
    refine v_goto (tgt := 25) S dX3_otherHall_16 (by decide) ?_
    exact v_iret S ⟨v0.2.2.2.1 i0.toNatClampNeg, (), rfl, rfl, hw⟩ dX3_otherHall_25
set_option maxHeartbeats 4000000 in
set_option maxRecDepth 100000 in
theorem c_X3_doorsOf (l : Launch) (G : GG) (a0 : LoomA) (v0 : LoomV) (i0 : Int32) (Q : Int32 → Prop) (hw : wp_X3_doorsOf v0 i0 Q) : Con l G yX3_doorsOf cX3_doorsOf 2 (some .int) { frames := 0, cells := 0, slots := 0, locals := 0 } [.ref a0.1, .int i0] (wLoom G a0 v0) (PI (fun _ : Unit => wLoom G a0 v0) (fun r _ => Q r)) 0 0 := by
  refine con_of RX3 rfl (by decide) [(0, .ref a0.1), (1, .int i0)] rfl (Nat.le_of_ble_eq_true rfl) ?_
  intro p e s m args below meth c S hname
  refine v_aload_n (pc2 := 1) S 0 dX3_doorsOf_0 rfl rfl rfl ?_
  refine v_get (v := .ref a0.2.2.2.2.2) (pc2 := 4) S gf_X3_24 0 rfl rfl dX3_doorsOf_1 rfl ?_
  refine v_iload_n (pc2 := 5) S 1 dX3_doorsOf_4 rfl rfl rfl ?_
  obtain ⟨h1, hw⟩ := hw
  refine v_iald (pc2 := 6) S 5 rfl h1 dX3_doorsOf_5 rfl ?_
  exact v_iret S ⟨v0.2.2.2.2.1 i0.toNatClampNeg, (), rfl, rfl, hw⟩ dX3_doorsOf_6
set_option maxHeartbeats 4000000 in
set_option maxRecDepth 100000 in
theorem c_X3_cordOf (l : Launch) (G : GG) (a0 : LoomA) (v0 : LoomV) (i0 : Int32) (i1 : Int32) (Q : Int32 → Prop) (hw : wp_X3_cordOf v0 i0 i1 Q) : Con l G yX3_cordOf cX3_cordOf 3 (some .int) { frames := 0, cells := 0, slots := 0, locals := 0 } [.ref a0.1, .int i0, .int i1] (wLoom G a0 v0) (PI (fun _ : Unit => wLoom G a0 v0) (fun r _ => Q r)) 0 0 := by
  refine con_of RX3 rfl (by decide) [(0, .ref a0.1), (1, .int i0), (2, .int i1)] rfl (Nat.le_of_ble_eq_true rfl) ?_
  intro p e s m args below meth c S hname
  refine v_iload_n (pc2 := 1) S 2 dX3_cordOf_0 rfl rfl rfl ?_
  refine v_if_eq (pc2 := 4) (tgt := 13) S dX3_cordOf_1 (by decide) rfl (fun c1 => ?_) (fun c1 => ?_)
  · have hw := hw.1 c1
    refine v_aload_n (pc2 := 14) S 0 dX3_cordOf_13 rfl rfl rfl ?_
    refine v_get (v := .ref a0.2.1) (pc2 := 17) S gf_X3_9 0 rfl rfl dX3_cordOf_14 rfl ?_
    refine v_iload_n (pc2 := 18) S 1 dX3_cordOf_17 rfl rfl rfl ?_
    obtain ⟨h2, hw⟩ := hw
    refine v_iald (pc2 := 19) S 1 rfl h2 dX3_cordOf_18 rfl ?_
    exact v_iret S ⟨v0.1 i0.toNatClampNeg, (), rfl, rfl, hw⟩ dX3_cordOf_19
  · have hw := hw.2 c1
    refine v_aload_n (pc2 := 5) S 0 dX3_cordOf_4 rfl rfl rfl ?_
    refine v_get (v := .ref a0.2.2.1) (pc2 := 8) S gf_X3_15 0 rfl rfl dX3_cordOf_5 rfl ?_
    refine v_iload_n (pc2 := 9) S 1 dX3_cordOf_8 rfl rfl rfl ?_
    obtain ⟨h3, hw⟩ := hw
    refine v_iald (pc2 := 10) S 2 rfl h3 dX3_cordOf_9 rfl ?_
    refine v_goto (tgt := 19) S dX3_cordOf_10 (by decide) ?_
    exact v_iret S ⟨v0.2.1 i0.toNatClampNeg, (), rfl, rfl, hw⟩ dX3_cordOf_19
set_option maxHeartbeats 4000000 in
set_option maxRecDepth 100000 in
theorem c_X3_layCord (l : Launch) (G : GG) (a0 : LoomA) (v0 : LoomV) (i0 : Int32) (i1 : Int32) (i2 : Int32) (Q : LoomV → Prop) (hw : wp_X3_layCord v0 i0 i1 i2 Q) : Con l G yX3_layCord cX3_layCord 4 none { frames := 0, cells := 0, slots := 0, locals := 0 } [.ref a0.1, .int i0, .int i1, .int i2] (wLoom G a0 v0) (PV (fun u : LoomV => wLoom G a0 u) Q) 0 0 := by
  refine con_of RX3 rfl (by decide) [(0, .ref a0.1), (1, .int i0), (2, .int i1), (3, .int i2)] rfl (Nat.le_of_ble_eq_true rfl) ?_
  intro p e s m args below meth c S hname
  refine v_iload_n (pc2 := 1) S 2 dX3_layCord_0 rfl rfl rfl ?_
  refine v_if_eq (pc2 := 4) (tgt := 14) S dX3_layCord_1 (by decide) rfl (fun c1 => ?_) (fun c1 => ?_)
  · have hw := hw.1 c1
    refine v_aload_n (pc2 := 15) S 0 dX3_layCord_14 rfl rfl rfl ?_
    refine v_get (v := .ref a0.2.1) (pc2 := 18) S gf_X3_9 0 rfl rfl dX3_layCord_15 rfl ?_
    refine v_iload_n (pc2 := 19) S 1 dX3_layCord_18 rfl rfl rfl ?_
    refine v_iload_n (pc2 := 20) S 3 dX3_layCord_19 rfl rfl rfl ?_
    obtain ⟨h2, hw⟩ := hw
    obtain ⟨g3, eg3⟩ : ∃ y : Nat → Int32, y = upd v0.1 i0.toNatClampNeg i2 := ⟨_, rfl⟩
    have hw := hw g3 eg3
    refine v_iast (ws2 := wLoom G a0 (g3, v0.2.1, v0.2.2.1, v0.2.2.2.1, v0.2.2.2.2.1, v0.2.2.2.2.2)) (pc2 := 21) S 1 rfl h2 (by rw [eg3] <;> rfl) dX3_layCord_20 rfl ?_
    exact v_vret S ⟨(g3, v0.2.1, v0.2.2.1, v0.2.2.2.1, v0.2.2.2.2.1, v0.2.2.2.2.2), rfl, rfl, hw⟩ dX3_layCord_21
  · have hw := hw.2 c1
    refine v_aload_n (pc2 := 5) S 0 dX3_layCord_4 rfl rfl rfl ?_
    refine v_get (v := .ref a0.2.2.1) (pc2 := 8) S gf_X3_15 0 rfl rfl dX3_layCord_5 rfl ?_
    refine v_iload_n (pc2 := 9) S 1 dX3_layCord_8 rfl rfl rfl ?_
    refine v_iload_n (pc2 := 10) S 3 dX3_layCord_9 rfl rfl rfl ?_
    obtain ⟨h4, hw⟩ := hw
    obtain ⟨g5, eg5⟩ : ∃ y : Nat → Int32, y = upd v0.2.1 i0.toNatClampNeg i2 := ⟨_, rfl⟩
    have hw := hw g5 eg5
    refine v_iast (ws2 := wLoom G a0 (v0.1, g5, v0.2.2.1, v0.2.2.2.1, v0.2.2.2.2.1, v0.2.2.2.2.2)) (pc2 := 11) S 2 rfl h4 (by rw [eg5] <;> rfl) dX3_layCord_10 rfl ?_
    refine v_goto (tgt := 21) S dX3_layCord_11 (by decide) ?_
    exact v_vret S ⟨(v0.1, g5, v0.2.2.1, v0.2.2.2.1, v0.2.2.2.2.1, v0.2.2.2.2.2), rfl, rfl, hw⟩ dX3_layCord_21
set_option maxHeartbeats 4000000 in
set_option maxRecDepth 100000 in
theorem c_X3_targetsOf (l : Launch) (G : GG) (a0 : LoomA) (v0 : LoomV) (i0 : Int32) (Q : Int32 → Prop) (hw : wp_X3_targetsOf v0 i0 Q) : Con l G yX3_targetsOf cX3_targetsOf 2 (some .int) { frames := 0, cells := 0, slots := 0, locals := 0 } [.ref a0.1, .int i0] (wLoom G a0 v0) (PI (fun _ : Unit => wLoom G a0 v0) (fun r _ => Q r)) 0 0 := by
  refine con_of RX3 rfl (by decide) [(0, .ref a0.1), (1, .int i0)] rfl (Nat.le_of_ble_eq_true rfl) ?_
  intro p e s m args below meth c S hname
  refine v_iconst (v := 1) (pc2 := 1) S dX3_targetsOf_0 (by decide) rfl ?_
  refine v_aload_n (pc2 := 2) S 0 dX3_targetsOf_1 rfl rfl rfl ?_
  refine v_get (v := .ref a0.2.1) (pc2 := 5) S gf_X3_9 0 rfl rfl dX3_targetsOf_2 rfl ?_
  refine v_iload_n (pc2 := 6) S 1 dX3_targetsOf_5 rfl rfl rfl ?_
  obtain ⟨h1, hw⟩ := hw
  refine v_iald (pc2 := 7) S 1 rfl h1 dX3_targetsOf_6 rfl ?_
  refine v_ishl (pc2 := 8) S dX3_targetsOf_7 rfl ?_
  refine v_iconst (v := 1) (pc2 := 9) S dX3_targetsOf_8 (by decide) rfl ?_
  refine v_aload_n (pc2 := 10) S 0 dX3_targetsOf_9 rfl rfl rfl ?_
  refine v_get (v := .ref a0.2.2.1) (pc2 := 13) S gf_X3_15 0 rfl rfl dX3_targetsOf_10 rfl ?_
  refine v_iload_n (pc2 := 14) S 1 dX3_targetsOf_13 rfl rfl rfl ?_
  obtain ⟨h2, hw⟩ := hw
  refine v_iald (pc2 := 15) S 2 rfl h2 dX3_targetsOf_14 rfl ?_
  refine v_ishl (pc2 := 16) S dX3_targetsOf_15 rfl ?_
  refine v_ior (pc2 := 17) S dX3_targetsOf_16 rfl ?_
  refine v_sipush (v := 1023) (pc2 := 20) S dX3_targetsOf_17 (by decide) rfl ?_
  refine v_iand (pc2 := 21) S dX3_targetsOf_20 rfl ?_
  exact v_iret S ⟨(((1 : Int32) <<< ((v0.1 i0.toNatClampNeg) &&& 31)) ||| ((1 : Int32) <<< ((v0.2.1 i0.toNatClampNeg) &&& 31))) &&& (1023 : Int32), (), rfl, rfl, hw⟩ dX3_targetsOf_21
set_option maxHeartbeats 4000000 in
set_option maxRecDepth 100000 in
theorem c_X3_heldBy (l : Launch) (G : GG) (a0 : LoomA) (v0 : LoomV) (i0 : Int32) (Q : Int32 → Prop) (hw : wp_X3_heldBy v0 i0 Q) : Con l G yX3_heldBy cX3_heldBy 4 (some .int) { frames := 1, cells := 0, slots := 0, locals := 21 } [.ref a0.1, .int i0] (wLoom G a0 v0) (PI (fun _ : Unit => wLoom G a0 v0) (fun r _ => Q r)) 0 0 := by
  refine con_of RX3 rfl (by decide) [(0, .ref a0.1), (1, .int i0)] rfl (Nat.le_of_ble_eq_true rfl) ?_
  intro p e s m args below meth c S hname
  have L4 : ∀ (x1 : Int32) (kk : Nat) (x2 : Int32) (x3 : Int32), wp_X3_heldBy_L4 v0 x1 Q kk x2 x3 → V p l e { frames := 1, cells := 0, slots := 0, locals := 21 } s m args below meth c G (va_A (wLoom G a0 v0) s.heap.size) 4 0 0 (MQ below (EQ G (wLoom G a0 v0) s.heap.size (PI (fun _ : Unit => wLoom G a0 v0) (fun r _ => Q r))) args s 0 0 (va_A (wLoom G a0 v0) s.heap.size)) (wLoom G a0 v0) 4 [(0, .ref a0.1), (1, .int x1), (2, .int x2), (3, .int x3)] [] := by
    intro x1 kk
    induction kk with
    | zero => intro x2 x3 hw; exact hw.elim
    | succ n ih =>
      intro x2 x3 hw
      refine v_iload_n (pc2 := 5) S 3 dX3_heldBy_4 rfl rfl rfl ?_
      refine v_bipush (v := 10) (pc2 := 7) S dX3_heldBy_5 (by decide) rfl ?_
      refine v_icmp_ge (pc2 := 10) (tgt := 32) S dX3_heldBy_7 (by decide) rfl (fun c1 => ?_) (fun c1 => ?_)
      · have hw := hw.1 c1
        refine v_iload_n (pc2 := 33) S 2 dX3_heldBy_32 rfl rfl rfl ?_
        exact v_iret S ⟨x2, (), rfl, rfl, hw⟩ dX3_heldBy_33
      · have hw := hw.2 c1
        refine v_iload_n (pc2 := 11) S 1 dX3_heldBy_10 rfl rfl rfl ?_
        refine v_iload_n (pc2 := 12) S 3 dX3_heldBy_11 rfl rfl rfl ?_
        refine v_callSN (pc2 := 15) (As := [.int x1, .int x3]) (rest := []) S (c_X8_has l G x1 x3 _ hw) mf_X8_has u_341 u_335 rfl rfl ⟨rfl, rfl⟩ ⟨Nat.le_of_ble_eq_true rfl, Nat.le_of_ble_eq_true rfl⟩ ⟨Nat.le_of_ble_eq_true rfl, Nat.le_of_ble_eq_true rfl⟩ (Nat.le_of_ble_eq_true rfl) dX3_heldBy_12 (frM [] [] _) rfl (pb (fun r2 u3 br2 hw => ?_))
        refine v_to (wLoom G a0 v0) 15 [(0, .ref a0.1), (1, .int x1), (2, .int x2), (3, .int x3)] _ [.int r2] rfl rfl rfl rfl ?_
        refine v_if_eq (pc2 := 18) (tgt := 26) S dX3_heldBy_15 (by decide) rfl (fun c4 => ?_) (fun c4 => ?_)
        · have hw := hw.1 c4
          obtain ⟨z5, ez5⟩ : ∃ y : Int32, y = x3 + (1 : Int32) := ⟨_, rfl⟩
          have hw := hw z5 ez5
          refine v_iinc (v := z5) (lv2 := [(0, .ref a0.1), (1, .int x1), (2, .int x2), (3, .int z5)]) (pc2 := 29) S 3 dX3_heldBy_26 rfl (by rw [ez5]; rfl) (by decide) [1, 2, 3, 0] rfl rfl ?_
          refine v_goto (tgt := 4) S dX3_heldBy_29 (by decide) ?_
          exact ih x2 z5 hw
        · have hw := hw.2 c4
          refine v_iload_n (pc2 := 19) S 2 dX3_heldBy_18 rfl rfl rfl ?_
          refine v_aload_n (pc2 := 20) S 0 dX3_heldBy_19 rfl rfl rfl ?_
          refine v_iload_n (pc2 := 21) S 3 dX3_heldBy_20 rfl rfl rfl ?_
          refine v_callV (pc2 := 24) (As := [.int x3]) (rest := [.int x2]) S (c_X3_targetsOf l G a0 v0 x3 _ hw) mf_X3_targetsOf u_342 u_343 u_344 0 3 rfl rfl rfl rfl ⟨rfl, rfl⟩ ⟨Nat.le_of_ble_eq_true rfl, Nat.le_of_ble_eq_true rfl⟩ ⟨Nat.le_of_ble_eq_true rfl, Nat.le_of_ble_eq_true rfl⟩ (Nat.le_of_ble_eq_true rfl) dX3_heldBy_21 (frW _) rfl (pi (fun r6 u7 hw => ?_))
          refine v_to (wLoom G a0 v0) 24 [(0, .ref a0.1), (1, .int x1), (2, .int x2), (3, .int x3)] _ [.int r6, .int x2] rfl rfl rfl rfl ?_
          refine v_ior (pc2 := 25) S dX3_heldBy_24 rfl ?_
          refine v_nm (fun z8 ez8 => ?_)
          have hw := hw z8 ez8
          refine v_istore_n (lv2 := [(0, .ref a0.1), (1, .int x1), (2, .int z8), (3, .int x3)]) (pc2 := 26) S dX3_heldBy_25 rfl (by decide) [1, 2, 0, 3] rfl rfl ?_
          obtain ⟨z9, ez9⟩ : ∃ y : Int32, y = x3 + (1 : Int32) := ⟨_, rfl⟩
          have hw := hw z9 ez9
          refine v_iinc (v := z9) (lv2 := [(0, .ref a0.1), (1, .int x1), (2, .int z8), (3, .int z9)]) (pc2 := 29) S 3 dX3_heldBy_26 rfl (by rw [ez9]; rfl) (by decide) [1, 2, 3, 0] rfl rfl ?_
          refine v_goto (tgt := 4) S dX3_heldBy_29 (by decide) ?_
          exact ih z8 z9 hw
  refine v_iconst (v := 0) (pc2 := 1) S dX3_heldBy_0 (by decide) rfl ?_
  refine v_istore_n (lv2 := [(0, .ref a0.1), (1, .int i0), (2, .int (0 : Int32))]) (pc2 := 2) S dX3_heldBy_1 rfl (by decide) [1, 2, 0] rfl rfl ?_
  refine v_iconst (v := 0) (pc2 := 3) S dX3_heldBy_2 (by decide) rfl ?_
  refine v_istore_n (lv2 := [(0, .ref a0.1), (1, .int i0), (2, .int (0 : Int32)), (3, .int (0 : Int32))]) (pc2 := 4) S dX3_heldBy_3 rfl (by decide) [1, 2, 3, 0] rfl rfl ?_
  obtain ⟨kk, hw⟩ := hw
  exact L4 i0 kk (0 : Int32) (0 : Int32) hw
set_option maxHeartbeats 4000000 in
set_option maxRecDepth 100000 in
theorem c_X3_cordsOf (l : Launch) (G : GG) (a0 : LoomA) (v0 : LoomV) (i0 : Int32) (Q : Int32 → Prop) (hw : wp_X3_cordsOf v0 i0 Q) : Con l G yX3_cordsOf cX3_cordsOf 4 (some .int) { frames := 1, cells := 0, slots := 0, locals := 21 } [.ref a0.1, .int i0] (wLoom G a0 v0) (PI (fun _ : Unit => wLoom G a0 v0) (fun r _ => Q r)) 0 0 := by
  refine con_of RX3 rfl (by decide) [(0, .ref a0.1), (1, .int i0)] rfl (Nat.le_of_ble_eq_true rfl) ?_
  intro p e s m args below meth c S hname
  have L4 : ∀ (x1 : Int32) (kk : Nat) (x2 : Int32) (x3 : Int32), wp_X3_cordsOf_L4 v0 x1 Q kk x2 x3 → V p l e { frames := 1, cells := 0, slots := 0, locals := 21 } s m args below meth c G (va_A (wLoom G a0 v0) s.heap.size) 4 0 0 (MQ below (EQ G (wLoom G a0 v0) s.heap.size (PI (fun _ : Unit => wLoom G a0 v0) (fun r _ => Q r))) args s 0 0 (va_A (wLoom G a0 v0) s.heap.size)) (wLoom G a0 v0) 4 [(0, .ref a0.1), (1, .int x1), (2, .int x2), (3, .int x3)] [] := by
    intro x1 kk
    induction kk with
    | zero => intro x2 x3 hw; exact hw.elim
    | succ n ih =>
      intro x2 x3 hw
      refine v_iload_n (pc2 := 5) S 3 dX3_cordsOf_4 rfl rfl rfl ?_
      refine v_bipush (v := 10) (pc2 := 7) S dX3_cordsOf_5 (by decide) rfl ?_
      refine v_icmp_ge (pc2 := 10) (tgt := 35) S dX3_cordsOf_7 (by decide) rfl (fun c1 => ?_) (fun c1 => ?_)
      · have hw := hw.1 c1
        refine v_iload_n (pc2 := 36) S 2 dX3_cordsOf_35 rfl rfl rfl ?_
        exact v_iret S ⟨x2, (), rfl, rfl, hw⟩ dX3_cordsOf_36
      · have hw := hw.2 c1
        refine v_iload_n (pc2 := 11) S 1 dX3_cordsOf_10 rfl rfl rfl ?_
        refine v_iload_n (pc2 := 12) S 3 dX3_cordsOf_11 rfl rfl rfl ?_
        refine v_callSN (pc2 := 15) (As := [.int x1, .int x3]) (rest := []) S (c_X8_has l G x1 x3 _ hw) mf_X8_has u_341 u_335 rfl rfl ⟨rfl, rfl⟩ ⟨Nat.le_of_ble_eq_true rfl, Nat.le_of_ble_eq_true rfl⟩ ⟨Nat.le_of_ble_eq_true rfl, Nat.le_of_ble_eq_true rfl⟩ (Nat.le_of_ble_eq_true rfl) dX3_cordsOf_12 (frM [] [] _) rfl (pb (fun r2 u3 br2 hw => ?_))
        refine v_to (wLoom G a0 v0) 15 [(0, .ref a0.1), (1, .int x1), (2, .int x2), (3, .int x3)] _ [.int r2] rfl rfl rfl rfl ?_
        refine v_if_eq (pc2 := 18) (tgt := 29) S dX3_cordsOf_15 (by decide) rfl (fun c4 => ?_) (fun c4 => ?_)
        · have hw := hw.1 c4
          obtain ⟨z5, ez5⟩ : ∃ y : Int32, y = x3 + (1 : Int32) := ⟨_, rfl⟩
          have hw := hw z5 ez5
          refine v_iinc (v := z5) (lv2 := [(0, .ref a0.1), (1, .int x1), (2, .int x2), (3, .int z5)]) (pc2 := 32) S 3 dX3_cordsOf_29 rfl (by rw [ez5]; rfl) (by decide) [1, 2, 3, 0] rfl rfl ?_
          refine v_goto (tgt := 4) S dX3_cordsOf_32 (by decide) ?_
          exact ih x2 z5 hw
        · have hw := hw.2 c4
          refine v_iload_n (pc2 := 19) S 2 dX3_cordsOf_18 rfl rfl rfl ?_
          refine v_aload_n (pc2 := 20) S 0 dX3_cordsOf_19 rfl rfl rfl ?_
          refine v_iload_n (pc2 := 21) S 3 dX3_cordsOf_20 rfl rfl rfl ?_
          refine v_callV (pc2 := 24) (As := [.int x3]) (rest := [.int x2]) S (c_X3_targetsOf l G a0 v0 x3 _ hw) mf_X3_targetsOf u_342 u_343 u_344 0 3 rfl rfl rfl rfl ⟨rfl, rfl⟩ ⟨Nat.le_of_ble_eq_true rfl, Nat.le_of_ble_eq_true rfl⟩ ⟨Nat.le_of_ble_eq_true rfl, Nat.le_of_ble_eq_true rfl⟩ (Nat.le_of_ble_eq_true rfl) dX3_cordsOf_21 (frW _) rfl (pi (fun r6 u7 hw => ?_))
          refine v_to (wLoom G a0 v0) 24 [(0, .ref a0.1), (1, .int x1), (2, .int x2), (3, .int x3)] _ [.int r6, .int x2] rfl rfl rfl rfl ?_
          refine v_callS (pc2 := 27) (As := [.int r6]) (rest := [.int x2]) S (c_J6_bitCount_0f7a4 l G r6 _ hw) mf_J6_bitCount_0f7a4 u_366 u_367 rfl rfl ⟨rfl, rfl⟩ ⟨Nat.le_of_ble_eq_true rfl, Nat.le_of_ble_eq_true rfl⟩ ⟨Nat.le_of_ble_eq_true rfl, Nat.le_of_ble_eq_true rfl⟩ (Nat.le_of_ble_eq_true rfl) dX3_cordsOf_24 (frM [] [] _) rfl (pi (fun r8 u9 hw => ?_))
          refine v_to (wLoom G a0 v0) 27 [(0, .ref a0.1), (1, .int x1), (2, .int x2), (3, .int x3)] _ [.int r8, .int x2] rfl rfl rfl rfl ?_
          refine v_iadd (pc2 := 28) S dX3_cordsOf_27 rfl ?_
          refine v_nm (fun z10 ez10 => ?_)
          have hw := hw z10 ez10
          refine v_istore_n (lv2 := [(0, .ref a0.1), (1, .int x1), (2, .int z10), (3, .int x3)]) (pc2 := 29) S dX3_cordsOf_28 rfl (by decide) [1, 2, 0, 3] rfl rfl ?_
          obtain ⟨z11, ez11⟩ : ∃ y : Int32, y = x3 + (1 : Int32) := ⟨_, rfl⟩
          have hw := hw z11 ez11
          refine v_iinc (v := z11) (lv2 := [(0, .ref a0.1), (1, .int x1), (2, .int z10), (3, .int z11)]) (pc2 := 32) S 3 dX3_cordsOf_29 rfl (by rw [ez11]; rfl) (by decide) [1, 2, 3, 0] rfl rfl ?_
          refine v_goto (tgt := 4) S dX3_cordsOf_32 (by decide) ?_
          exact ih z10 z11 hw
  refine v_iconst (v := 0) (pc2 := 1) S dX3_cordsOf_0 (by decide) rfl ?_
  refine v_istore_n (lv2 := [(0, .ref a0.1), (1, .int i0), (2, .int (0 : Int32))]) (pc2 := 2) S dX3_cordsOf_1 rfl (by decide) [1, 2, 0] rfl rfl ?_
  refine v_iconst (v := 0) (pc2 := 3) S dX3_cordsOf_2 (by decide) rfl ?_
  refine v_istore_n (lv2 := [(0, .ref a0.1), (1, .int i0), (2, .int (0 : Int32)), (3, .int (0 : Int32))]) (pc2 := 4) S dX3_cordsOf_3 rfl (by decide) [1, 2, 3, 0] rfl rfl ?_
  obtain ⟨kk, hw⟩ := hw
  exact L4 i0 kk (0 : Int32) (0 : Int32) hw
set_option maxHeartbeats 4000000 in
set_option maxRecDepth 100000 in
theorem c_X3_cordsTo (l : Launch) (G : GG) (a0 : LoomA) (v0 : LoomV) (i0 : Int32) (i1 : Int32) (Q : Int32 → Prop) (hw : wp_X3_cordsTo v0 i0 i1 Q) : Con l G yX3_cordsTo cX3_cordsTo 5 (some .int) { frames := 1, cells := 0, slots := 0, locals := 21 } [.ref a0.1, .int i0, .int i1] (wLoom G a0 v0) (PI (fun _ : Unit => wLoom G a0 v0) (fun r _ => Q r)) 0 0 := by
  refine con_of RX3 rfl (by decide) [(0, .ref a0.1), (1, .int i0), (2, .int i1)] rfl (Nat.le_of_ble_eq_true rfl) ?_
  intro p e s m args below meth c S hname
  have L5 : ∀ (x1 : Int32) (x2 : Int32) (kk : Nat) (x3 : Int32) (x4 : Int32), wp_X3_cordsTo_L5 v0 x1 x2 Q kk x3 x4 → V p l e { frames := 1, cells := 0, slots := 0, locals := 21 } s m args below meth c G (va_A (wLoom G a0 v0) s.heap.size) 5 0 0 (MQ below (EQ G (wLoom G a0 v0) s.heap.size (PI (fun _ : Unit => wLoom G a0 v0) (fun r _ => Q r))) args s 0 0 (va_A (wLoom G a0 v0) s.heap.size)) (wLoom G a0 v0) 5 [(0, .ref a0.1), (1, .int x1), (2, .int x2), (3, .int x3), (4, .int x4)] [] := by
    intro x1 x2 kk
    induction kk with
    | zero => intro x3 x4 hw; exact hw.elim
    | succ n ih =>
      intro x3 x4 hw
      refine v_iload (pc2 := 7) S 4 dX3_cordsTo_5 rfl rfl ?_
      refine v_bipush (v := 10) (pc2 := 9) S dX3_cordsTo_7 (by decide) rfl ?_
      refine v_icmp_ge (pc2 := 12) (tgt := 43) S dX3_cordsTo_9 (by decide) rfl (fun c1 => ?_) (fun c1 => ?_)
      · have hw := hw.1 c1
        refine v_iload_n (pc2 := 44) S 3 dX3_cordsTo_43 rfl rfl rfl ?_
        exact v_iret S ⟨x3, (), rfl, rfl, hw⟩ dX3_cordsTo_44
      · have hw := hw.2 c1
        refine v_iload_n (pc2 := 13) S 2 dX3_cordsTo_12 rfl rfl rfl ?_
        refine v_iload (pc2 := 15) S 4 dX3_cordsTo_13 rfl rfl ?_
        refine v_callSN (pc2 := 18) (As := [.int x2, .int x4]) (rest := []) S (c_X8_has l G x2 x4 _ hw) mf_X8_has u_341 u_335 rfl rfl ⟨rfl, rfl⟩ ⟨Nat.le_of_ble_eq_true rfl, Nat.le_of_ble_eq_true rfl⟩ ⟨Nat.le_of_ble_eq_true rfl, Nat.le_of_ble_eq_true rfl⟩ (Nat.le_of_ble_eq_true rfl) dX3_cordsTo_15 (frM [] [] _) rfl (pb (fun r2 u3 br2 hw => ?_))
        refine v_to (wLoom G a0 v0) 18 [(0, .ref a0.1), (1, .int x1), (2, .int x2), (3, .int x3), (4, .int x4)] _ [.int r2] rfl rfl rfl rfl ?_
        refine v_if_eq (pc2 := 21) (tgt := 37) S dX3_cordsTo_18 (by decide) rfl (fun c4 => ?_) (fun c4 => ?_)
        · have hw := hw.1 c4
          obtain ⟨z5, ez5⟩ : ∃ y : Int32, y = x4 + (1 : Int32) := ⟨_, rfl⟩
          have hw := hw z5 ez5
          refine v_iinc (v := z5) (lv2 := [(0, .ref a0.1), (1, .int x1), (2, .int x2), (3, .int x3), (4, .int z5)]) (pc2 := 40) S 4 dX3_cordsTo_37 rfl (by rw [ez5]; rfl) (by decide) [1, 2, 3, 4, 0] rfl rfl ?_
          refine v_goto (tgt := 5) S dX3_cordsTo_40 (by decide) ?_
          exact ih x3 z5 hw
        · have hw := hw.2 c4
          refine v_aload_n (pc2 := 22) S 0 dX3_cordsTo_21 rfl rfl rfl ?_
          refine v_iload (pc2 := 24) S 4 dX3_cordsTo_22 rfl rfl ?_
          refine v_callV (pc2 := 27) (As := [.int x4]) (rest := []) S (c_X3_targetsOf l G a0 v0 x4 _ hw) mf_X3_targetsOf u_342 u_343 u_344 0 3 rfl rfl rfl rfl ⟨rfl, rfl⟩ ⟨Nat.le_of_ble_eq_true rfl, Nat.le_of_ble_eq_true rfl⟩ ⟨Nat.le_of_ble_eq_true rfl, Nat.le_of_ble_eq_true rfl⟩ (Nat.le_of_ble_eq_true rfl) dX3_cordsTo_24 (frW _) rfl (pi (fun r6 u7 hw => ?_))
          refine v_to (wLoom G a0 v0) 27 [(0, .ref a0.1), (1, .int x1), (2, .int x2), (3, .int x3), (4, .int x4)] _ [.int r6] rfl rfl rfl rfl ?_
          refine v_iload_n (pc2 := 28) S 1 dX3_cordsTo_27 rfl rfl rfl ?_
          refine v_callSN (pc2 := 31) (As := [.int r6, .int x1]) (rest := []) S (c_X8_has l G r6 x1 _ hw) mf_X8_has u_341 u_335 rfl rfl ⟨rfl, rfl⟩ ⟨Nat.le_of_ble_eq_true rfl, Nat.le_of_ble_eq_true rfl⟩ ⟨Nat.le_of_ble_eq_true rfl, Nat.le_of_ble_eq_true rfl⟩ (Nat.le_of_ble_eq_true rfl) dX3_cordsTo_28 (frM [] [] _) rfl (pb (fun r8 u9 br8 hw => ?_))
          refine v_to (wLoom G a0 v0) 31 [(0, .ref a0.1), (1, .int x1), (2, .int x2), (3, .int x3), (4, .int x4)] _ [.int r8] rfl rfl rfl rfl ?_
          refine v_if_eq (pc2 := 34) (tgt := 37) S dX3_cordsTo_31 (by decide) rfl (fun c10 => ?_) (fun c10 => ?_)
          · have hw := hw.1 c10
            obtain ⟨z11, ez11⟩ : ∃ y : Int32, y = x4 + (1 : Int32) := ⟨_, rfl⟩
            have hw := hw z11 ez11
            refine v_iinc (v := z11) (lv2 := [(0, .ref a0.1), (1, .int x1), (2, .int x2), (3, .int x3), (4, .int z11)]) (pc2 := 40) S 4 dX3_cordsTo_37 rfl (by rw [ez11]; rfl) (by decide) [1, 2, 3, 4, 0] rfl rfl ?_
            refine v_goto (tgt := 5) S dX3_cordsTo_40 (by decide) ?_
            exact ih x3 z11 hw
          · have hw := hw.2 c10
            obtain ⟨z12, ez12⟩ : ∃ y : Int32, y = x3 + (1 : Int32) := ⟨_, rfl⟩
            have hw := hw z12 ez12
            refine v_iinc (v := z12) (lv2 := [(0, .ref a0.1), (1, .int x1), (2, .int x2), (3, .int z12), (4, .int x4)]) (pc2 := 37) S 3 dX3_cordsTo_34 rfl (by rw [ez12]; rfl) (by decide) [1, 2, 3, 0, 4] rfl rfl ?_
            obtain ⟨z13, ez13⟩ : ∃ y : Int32, y = x4 + (1 : Int32) := ⟨_, rfl⟩
            have hw := hw z13 ez13
            refine v_iinc (v := z13) (lv2 := [(0, .ref a0.1), (1, .int x1), (2, .int x2), (3, .int z12), (4, .int z13)]) (pc2 := 40) S 4 dX3_cordsTo_37 rfl (by rw [ez13]; rfl) (by decide) [1, 2, 3, 4, 0] rfl rfl ?_
            refine v_goto (tgt := 5) S dX3_cordsTo_40 (by decide) ?_
            exact ih z12 z13 hw
  refine v_iconst (v := 0) (pc2 := 1) S dX3_cordsTo_0 (by decide) rfl ?_
  refine v_istore_n (lv2 := [(0, .ref a0.1), (1, .int i0), (2, .int i1), (3, .int (0 : Int32))]) (pc2 := 2) S dX3_cordsTo_1 rfl (by decide) [1, 2, 3, 0] rfl rfl ?_
  refine v_iconst (v := 0) (pc2 := 3) S dX3_cordsTo_2 (by decide) rfl ?_
  refine v_istore (lv2 := [(0, .ref a0.1), (1, .int i0), (2, .int i1), (3, .int (0 : Int32)), (4, .int (0 : Int32))]) (pc2 := 5) S dX3_cordsTo_3 (by decide) [1, 2, 3, 4, 0] rfl rfl ?_
  obtain ⟨kk, hw⟩ := hw
  exact L5 i0 i1 kk (0 : Int32) (0 : Int32) hw
set_option maxHeartbeats 4000000 in
set_option maxRecDepth 100000 in
theorem c_X3_pairsOfDoors (l : Launch) (G : GG) (a0 : LoomA) (v0 : LoomV) (Q : Int32 → Prop) (hw : wp_X3_pairsOfDoors v0 Q) : Con l G yX3_pairsOfDoors cX3_pairsOfDoors 4 (some .int) { frames := 1, cells := 0, slots := 0, locals := 21 } [.ref a0.1] (wLoom G a0 v0) (PI (fun _ : Unit => wLoom G a0 v0) (fun r _ => Q r)) 0 0 := by
  refine con_of RX3 rfl (by decide) [(0, .ref a0.1)] rfl (Nat.le_of_ble_eq_true rfl) ?_
  intro p e s m args below meth c S hname
  have L14 : ∀ (x2 : Int32) (K4 : Int32 → Int32 → Prop) (hK4 : ∀ (y0 : Int32) (y1 : Int32), K4 y0 y1 → V p l e { frames := 1, cells := 0, slots := 0, locals := 21 } s m args below meth c G (va_A (wLoom G a0 v0) s.heap.size) 4 0 0 (MQ below (EQ G (wLoom G a0 v0) s.heap.size (PI (fun _ : Unit => wLoom G a0 v0) (fun r _ => Q r))) args s 0 0 (va_A (wLoom G a0 v0) s.heap.size)) (wLoom G a0 v0) 4 [(0, .ref a0.1), (1, .int y0), (2, .int y1)] []) (kk : Nat) (x1 : Int32) (x3 : Int32), wp_X3_pairsOfDoors_L14 v0 x2 Q K4 kk x1 x3 → V p l e { frames := 1, cells := 0, slots := 0, locals := 21 } s m args below meth c G (va_A (wLoom G a0 v0) s.heap.size) 4 0 0 (MQ below (EQ G (wLoom G a0 v0) s.heap.size (PI (fun _ : Unit => wLoom G a0 v0) (fun r _ => Q r))) args s 0 0 (va_A (wLoom G a0 v0) s.heap.size)) (wLoom G a0 v0) 14 [(0, .ref a0.1), (1, .int x1), (2, .int x2), (3, .int x3)] [] := by
    intro x2 K4 hK4 kk
    induction kk with
    | zero => intro x1 x3 hw; exact hw.elim
    | succ n ih =>
      intro x1 x3 hw
      refine v_iload_n (pc2 := 15) S 3 dX3_pairsOfDoors_14 rfl rfl rfl ?_
      refine v_bipush (v := 10) (pc2 := 17) S dX3_pairsOfDoors_15 (by decide) rfl ?_
      refine v_icmp_ge (pc2 := 20) (tgt := 53) S dX3_pairsOfDoors_17 (by decide) rfl (fun c3 => ?_) (fun c3 => ?_)
      · have hw := hw.1 c3
        obtain ⟨z4, ez4⟩ : ∃ y : Int32, y = x2 + (1 : Int32) := ⟨_, rfl⟩
        have hw := hw z4 ez4
        refine v_iinc (v := z4) (lv2 := [(0, .ref a0.1), (1, .int x1), (2, .int z4), (3, .int x3)]) (pc2 := 56) S 2 dX3_pairsOfDoors_53 rfl (by rw [ez4]; rfl) (by decide) [1, 2, 0, 3] rfl rfl ?_
        refine v_goto (tgt := 4) S dX3_pairsOfDoors_56 (by decide) ?_
        refine v_lv [(0, .ref a0.1), (1, .int x1), (2, .int z4)] [0, 1, 2] rfl ?_
        exact hK4 x1 z4 hw
      · have hw := hw.2 c3
        refine v_aload_n (pc2 := 21) S 0 dX3_pairsOfDoors_20 rfl rfl rfl ?_
        refine v_iload_n (pc2 := 22) S 2 dX3_pairsOfDoors_21 rfl rfl rfl ?_
        refine v_callV (pc2 := 25) (As := [.int x2]) (rest := []) S (c_X3_targetsOf l G a0 v0 x2 _ hw) mf_X3_targetsOf u_342 u_343 u_344 0 3 rfl rfl rfl rfl ⟨rfl, rfl⟩ ⟨Nat.le_of_ble_eq_true rfl, Nat.le_of_ble_eq_true rfl⟩ ⟨Nat.le_of_ble_eq_true rfl, Nat.le_of_ble_eq_true rfl⟩ (Nat.le_of_ble_eq_true rfl) dX3_pairsOfDoors_22 (frW _) rfl (pi (fun r5 u6 hw => ?_))
        refine v_to (wLoom G a0 v0) 25 [(0, .ref a0.1), (1, .int x1), (2, .int x2), (3, .int x3)] _ [.int r5] rfl rfl rfl rfl ?_
        refine v_iload_n (pc2 := 26) S 3 dX3_pairsOfDoors_25 rfl rfl rfl ?_
        refine v_callSN (pc2 := 29) (As := [.int r5, .int x3]) (rest := []) S (c_X8_has l G r5 x3 _ hw) mf_X8_has u_341 u_335 rfl rfl ⟨rfl, rfl⟩ ⟨Nat.le_of_ble_eq_true rfl, Nat.le_of_ble_eq_true rfl⟩ ⟨Nat.le_of_ble_eq_true rfl, Nat.le_of_ble_eq_true rfl⟩ (Nat.le_of_ble_eq_true rfl) dX3_pairsOfDoors_26 (frM [] [] _) rfl (pb (fun r7 u8 br7 hw => ?_))
        refine v_to (wLoom G a0 v0) 29 [(0, .ref a0.1), (1, .int x1), (2, .int x2), (3, .int x3)] _ [.int r7] rfl rfl rfl rfl ?_
        refine v_if_eq (pc2 := 32) (tgt := 47) S dX3_pairsOfDoors_29 (by decide) rfl (fun c9 => ?_) (fun c9 => ?_)
        · have hw := hw.1 c9
          obtain ⟨z10, ez10⟩ : ∃ y : Int32, y = x3 + (1 : Int32) := ⟨_, rfl⟩
          have hw := hw z10 ez10
          refine v_iinc (v := z10) (lv2 := [(0, .ref a0.1), (1, .int x1), (2, .int x2), (3, .int z10)]) (pc2 := 50) S 3 dX3_pairsOfDoors_47 rfl (by rw [ez10]; rfl) (by decide) [1, 2, 3, 0] rfl rfl ?_
          refine v_goto (tgt := 14) S dX3_pairsOfDoors_50 (by decide) ?_
          exact ih x1 z10 hw
        · have hw := hw.2 c9
          refine v_aload_n (pc2 := 33) S 0 dX3_pairsOfDoors_32 rfl rfl rfl ?_
          refine v_iload_n (pc2 := 34) S 3 dX3_pairsOfDoors_33 rfl rfl rfl ?_
          refine v_callV (pc2 := 37) (As := [.int x3]) (rest := []) S (c_X3_targetsOf l G a0 v0 x3 _ hw) mf_X3_targetsOf u_342 u_343 u_344 0 3 rfl rfl rfl rfl ⟨rfl, rfl⟩ ⟨Nat.le_of_ble_eq_true rfl, Nat.le_of_ble_eq_true rfl⟩ ⟨Nat.le_of_ble_eq_true rfl, Nat.le_of_ble_eq_true rfl⟩ (Nat.le_of_ble_eq_true rfl) dX3_pairsOfDoors_34 (frW _) rfl (pi (fun r11 u12 hw => ?_))
          refine v_to (wLoom G a0 v0) 37 [(0, .ref a0.1), (1, .int x1), (2, .int x2), (3, .int x3)] _ [.int r11] rfl rfl rfl rfl ?_
          refine v_iload_n (pc2 := 38) S 2 dX3_pairsOfDoors_37 rfl rfl rfl ?_
          refine v_callSN (pc2 := 41) (As := [.int r11, .int x2]) (rest := []) S (c_X8_has l G r11 x2 _ hw) mf_X8_has u_341 u_335 rfl rfl ⟨rfl, rfl⟩ ⟨Nat.le_of_ble_eq_true rfl, Nat.le_of_ble_eq_true rfl⟩ ⟨Nat.le_of_ble_eq_true rfl, Nat.le_of_ble_eq_true rfl⟩ (Nat.le_of_ble_eq_true rfl) dX3_pairsOfDoors_38 (frM [] [] _) rfl (pb (fun r13 u14 br13 hw => ?_))
          refine v_to (wLoom G a0 v0) 41 [(0, .ref a0.1), (1, .int x1), (2, .int x2), (3, .int x3)] _ [.int r13] rfl rfl rfl rfl ?_
          refine v_if_eq (pc2 := 44) (tgt := 47) S dX3_pairsOfDoors_41 (by decide) rfl (fun c15 => ?_) (fun c15 => ?_)
          · have hw := hw.1 c15
            obtain ⟨z16, ez16⟩ : ∃ y : Int32, y = x3 + (1 : Int32) := ⟨_, rfl⟩
            have hw := hw z16 ez16
            refine v_iinc (v := z16) (lv2 := [(0, .ref a0.1), (1, .int x1), (2, .int x2), (3, .int z16)]) (pc2 := 50) S 3 dX3_pairsOfDoors_47 rfl (by rw [ez16]; rfl) (by decide) [1, 2, 3, 0] rfl rfl ?_
            refine v_goto (tgt := 14) S dX3_pairsOfDoors_50 (by decide) ?_
            exact ih x1 z16 hw
          · have hw := hw.2 c15
            obtain ⟨z17, ez17⟩ : ∃ y : Int32, y = x1 + (1 : Int32) := ⟨_, rfl⟩
            have hw := hw z17 ez17
            refine v_iinc (v := z17) (lv2 := [(0, .ref a0.1), (1, .int z17), (2, .int x2), (3, .int x3)]) (pc2 := 47) S 1 dX3_pairsOfDoors_44 rfl (by rw [ez17]; rfl) (by decide) [1, 0, 2, 3] rfl rfl ?_
            obtain ⟨z18, ez18⟩ : ∃ y : Int32, y = x3 + (1 : Int32) := ⟨_, rfl⟩
            have hw := hw z18 ez18
            refine v_iinc (v := z18) (lv2 := [(0, .ref a0.1), (1, .int z17), (2, .int x2), (3, .int z18)]) (pc2 := 50) S 3 dX3_pairsOfDoors_47 rfl (by rw [ez18]; rfl) (by decide) [1, 2, 3, 0] rfl rfl ?_
            refine v_goto (tgt := 14) S dX3_pairsOfDoors_50 (by decide) ?_
            exact ih z17 z18 hw
  have L4 : ∀ (kk : Nat) (x1 : Int32) (x2 : Int32), wp_X3_pairsOfDoors_L4 v0 Q kk x1 x2 → V p l e { frames := 1, cells := 0, slots := 0, locals := 21 } s m args below meth c G (va_A (wLoom G a0 v0) s.heap.size) 4 0 0 (MQ below (EQ G (wLoom G a0 v0) s.heap.size (PI (fun _ : Unit => wLoom G a0 v0) (fun r _ => Q r))) args s 0 0 (va_A (wLoom G a0 v0) s.heap.size)) (wLoom G a0 v0) 4 [(0, .ref a0.1), (1, .int x1), (2, .int x2)] [] := by
    intro kk
    induction kk with
    | zero => intro x1 x2 hw; exact hw.elim
    | succ n ih =>
      intro x1 x2 hw
      refine v_iload_n (pc2 := 5) S 2 dX3_pairsOfDoors_4 rfl rfl rfl ?_
      refine v_bipush (v := 10) (pc2 := 7) S dX3_pairsOfDoors_5 (by decide) rfl ?_
      refine v_icmp_ge (pc2 := 10) (tgt := 59) S dX3_pairsOfDoors_7 (by decide) rfl (fun c1 => ?_) (fun c1 => ?_)
      · have hw := hw.1 c1
        refine v_iload_n (pc2 := 60) S 1 dX3_pairsOfDoors_59 rfl rfl rfl ?_
        exact v_iret S ⟨x1, (), rfl, rfl, hw⟩ dX3_pairsOfDoors_60
      · have hw := hw.2 c1
        refine v_iload_n (pc2 := 11) S 2 dX3_pairsOfDoors_10 rfl rfl rfl ?_
        refine v_iconst (v := 1) (pc2 := 12) S dX3_pairsOfDoors_11 (by decide) rfl ?_
        refine v_iadd (pc2 := 13) S dX3_pairsOfDoors_12 rfl ?_
        refine v_nm (fun z2 ez2 => ?_)
        have hw := hw z2 ez2
        refine v_istore_n (lv2 := [(0, .ref a0.1), (1, .int x1), (2, .int x2), (3, .int z2)]) (pc2 := 14) S dX3_pairsOfDoors_13 rfl (by decide) [1, 2, 3, 0] rfl rfl ?_
        obtain ⟨kk, hw⟩ := hw
        exact L14 x2 (wp_X3_pairsOfDoors_L4 v0 Q n) ih kk x1 z2 hw
  refine v_iconst (v := 0) (pc2 := 1) S dX3_pairsOfDoors_0 (by decide) rfl ?_
  refine v_istore_n (lv2 := [(0, .ref a0.1), (1, .int (0 : Int32))]) (pc2 := 2) S dX3_pairsOfDoors_1 rfl (by decide) [1, 0] rfl rfl ?_
  refine v_iconst (v := 0) (pc2 := 3) S dX3_pairsOfDoors_2 (by decide) rfl ?_
  refine v_istore_n (lv2 := [(0, .ref a0.1), (1, .int (0 : Int32)), (2, .int (0 : Int32))]) (pc2 := 4) S dX3_pairsOfDoors_3 rfl (by decide) [1, 2, 0] rfl rfl ?_
  obtain ⟨kk, hw⟩ := hw
  exact L4  kk (0 : Int32) (0 : Int32) hw
set_option maxHeartbeats 4000000 in
set_option maxRecDepth 100000 in
theorem c_X3_hasTooMany (l : Launch) (G : GG) (a0 : LoomA) (v0 : LoomV) (i0 : Int32) (i1 : Int32) (Q : Int32 → Prop) (hw : wp_X3_hasTooMany v0 i0 i1 Q) : Con l G yX3_hasTooMany cX3_hasTooMany 3 (some .boolean) { frames := 1, cells := 0, slots := 0, locals := 20 } [.ref a0.1, .int i0, .int i1] (wLoom G a0 v0) (PB (fun _ : Unit => wLoom G a0 v0) (fun r _ => Q r)) 0 0 := by
  refine con_of RX3 rfl (by decide) [(0, .ref a0.1), (1, .int i0), (2, .int i1)] rfl (Nat.le_of_ble_eq_true rfl) ?_
  intro p e s m args below meth c S hname
  refine v_aload_n (pc2 := 1) S 0 dX3_hasTooMany_0 rfl rfl rfl ?_
  refine v_get (v := .ref a0.2.2.2.2.2) (pc2 := 4) S gf_X3_24 0 rfl rfl dX3_hasTooMany_1 rfl ?_
  refine v_iload_n (pc2 := 5) S 1 dX3_hasTooMany_4 rfl rfl rfl ?_
  obtain ⟨h1, hw⟩ := hw
  refine v_iald (pc2 := 6) S 5 rfl h1 dX3_hasTooMany_5 rfl ?_
  refine v_iload_n (pc2 := 7) S 2 dX3_hasTooMany_6 rfl rfl rfl ?_
  refine v_iand (pc2 := 8) S dX3_hasTooMany_7 rfl ?_
  refine v_callS (pc2 := 11) (As := [.int ((v0.2.2.2.2.1 i0.toNatClampNeg) &&& i1)]) (rest := []) S (c_J6_bitCount_0f7a4 l G ((v0.2.2.2.2.1 i0.toNatClampNeg) &&& i1) _ hw) mf_J6_bitCount_0f7a4 u_366 u_367 rfl rfl ⟨rfl, rfl⟩ ⟨Nat.le_of_ble_eq_true rfl, Nat.le_of_ble_eq_true rfl⟩ ⟨Nat.le_of_ble_eq_true rfl, Nat.le_of_ble_eq_true rfl⟩ (Nat.le_of_ble_eq_true rfl) dX3_hasTooMany_8 (frM [] [] _) rfl (pi (fun r2 u3 hw => ?_))
  refine v_to (wLoom G a0 v0) 11 [(0, .ref a0.1), (1, .int i0), (2, .int i1)] _ [.int r2] rfl rfl rfl rfl ?_
  refine v_aload_n (pc2 := 12) S 0 dX3_hasTooMany_11 rfl rfl rfl ?_
  refine v_get (v := .int v0.2.2.2.2.2) (pc2 := 15) S gf_X3_27 0 rfl rfl dX3_hasTooMany_12 rfl ?_
  refine v_icmp_le (pc2 := 18) (tgt := 22) S dX3_hasTooMany_15 (by decide) rfl (fun c4 => ?_) (fun c4 => ?_)
  · have hw := hw.1 c4
    refine v_iconst (v := 0) (pc2 := 23) S dX3_hasTooMany_22 (by decide) rfl ?_
    exact v_zret S (by decide) ⟨(0 : Int32), (), rfl, (by decide), rfl, hw⟩ dX3_hasTooMany_23
  · have hw := hw.2 c4
    refine v_iconst (v := 1) (pc2 := 19) S dX3_hasTooMany_18 (by decide) rfl ?_
    refine v_goto (tgt := 23) S dX3_hasTooMany_19 (by decide) ?_
    exact v_zret S (by decide) ⟨(1 : Int32), (), rfl, (by decide), rfl, hw⟩ dX3_hasTooMany_23
set_option maxHeartbeats 4000000 in
set_option maxRecDepth 100000 in
theorem c_X3_canBeOpen (l : Launch) (G : GG) (a0 : LoomA) (v0 : LoomV) (i0 : Int32) (Q : Int32 → Prop) (hw : wp_X3_canBeOpen v0 i0 Q) : Con l G yX3_canBeOpen cX3_canBeOpen 3 (some .boolean) { frames := 2, cells := 0, slots := 0, locals := 44 } [.ref a0.1, .int i0] (wLoom G a0 v0) (PB (fun _ : Unit => wLoom G a0 v0) (fun r _ => Q r)) 0 0 := by
  refine con_of RX3 rfl (by decide) [(0, .ref a0.1), (1, .int i0)] rfl (Nat.le_of_ble_eq_true rfl) ?_
  intro p e s m args below meth c S hname
  have L14 : ∀ (x1 : Int32) (kk : Nat) (x2 : Int32), wp_X3_canBeOpen_L14 v0 x1 Q kk x2 → V p l e { frames := 2, cells := 0, slots := 0, locals := 44 } s m args below meth c G (va_A (wLoom G a0 v0) s.heap.size) 3 0 0 (MQ below (EQ G (wLoom G a0 v0) s.heap.size (PB (fun _ : Unit => wLoom G a0 v0) (fun r _ => Q r))) args s 0 0 (va_A (wLoom G a0 v0) s.heap.size)) (wLoom G a0 v0) 14 [(0, .ref a0.1), (1, .int x1), (2, .int x2)] [] := by
    intro x1 kk
    induction kk with
    | zero => intro x2 hw; exact hw.elim
    | succ n ih =>
      intro x2 hw
      refine v_iload_n (pc2 := 15) S 2 dX3_canBeOpen_14 rfl rfl rfl ?_
      refine v_bipush (v := 6) (pc2 := 17) S dX3_canBeOpen_15 (by decide) rfl ?_
      refine v_icmp_ge (pc2 := 20) (tgt := 37) S dX3_canBeOpen_17 (by decide) rfl (fun c4 => ?_) (fun c4 => ?_)
      · have hw := hw.1 c4
        refine v_iconst (v := 1) (pc2 := 38) S dX3_canBeOpen_37 (by decide) rfl ?_
        exact v_zret S (by decide) ⟨(1 : Int32), (), rfl, (by decide), rfl, hw⟩ dX3_canBeOpen_38
      · have hw := hw.2 c4
        refine v_aload_n (pc2 := 21) S 0 dX3_canBeOpen_20 rfl rfl rfl ?_
        refine v_iload_n (pc2 := 22) S 2 dX3_canBeOpen_21 rfl rfl rfl ?_
        refine v_iload_n (pc2 := 23) S 1 dX3_canBeOpen_22 rfl rfl rfl ?_
        refine v_callV (pc2 := 26) (As := [.int x2, .int x1]) (rest := []) S (c_X3_hasTooMany l G a0 v0 x2 x1 _ hw) mf_X3_hasTooMany u_362 u_364 u_1 0 3 rfl rfl rfl rfl ⟨rfl, rfl⟩ ⟨Nat.le_of_ble_eq_true rfl, Nat.le_of_ble_eq_true rfl⟩ ⟨Nat.le_of_ble_eq_true rfl, Nat.le_of_ble_eq_true rfl⟩ (Nat.le_of_ble_eq_true rfl) dX3_canBeOpen_23 (frW _) rfl (pb (fun r5 u6 br5 hw => ?_))
        refine v_to (wLoom G a0 v0) 26 [(0, .ref a0.1), (1, .int x1), (2, .int x2)] _ [.int r5] rfl rfl rfl rfl ?_
        refine v_if_eq (pc2 := 29) (tgt := 31) S dX3_canBeOpen_26 (by decide) rfl (fun c7 => ?_) (fun c7 => ?_)
        · have hw := hw.1 c7
          obtain ⟨z8, ez8⟩ : ∃ y : Int32, y = x2 + (1 : Int32) := ⟨_, rfl⟩
          have hw := hw z8 ez8
          refine v_iinc (v := z8) (lv2 := [(0, .ref a0.1), (1, .int x1), (2, .int z8)]) (pc2 := 34) S 2 dX3_canBeOpen_31 rfl (by rw [ez8]; rfl) (by decide) [1, 2, 0] rfl rfl ?_
          refine v_goto (tgt := 14) S dX3_canBeOpen_34 (by decide) ?_
          exact ih z8 hw
        · have hw := hw.2 c7
          refine v_iconst (v := 0) (pc2 := 30) S dX3_canBeOpen_29 (by decide) rfl ?_
          exact v_zret S (by decide) ⟨(0 : Int32), (), rfl, (by decide), rfl, hw⟩ dX3_canBeOpen_30
  refine v_aload_n (pc2 := 1) S 0 dX3_canBeOpen_0 rfl rfl rfl ?_
  refine v_iload_n (pc2 := 2) S 1 dX3_canBeOpen_1 rfl rfl rfl ?_
  refine v_callV (pc2 := 5) (As := [.int i0]) (rest := []) S (c_X3_heldBy l G a0 v0 i0 _ hw) mf_X3_heldBy u_632 u_338 u_339 0 3 rfl rfl rfl rfl ⟨rfl, rfl⟩ ⟨Nat.le_of_ble_eq_true rfl, Nat.le_of_ble_eq_true rfl⟩ ⟨Nat.le_of_ble_eq_true rfl, Nat.le_of_ble_eq_true rfl⟩ (Nat.le_of_ble_eq_true rfl) dX3_canBeOpen_2 (frW _) rfl (pi (fun r1 u2 hw => ?_))
  refine v_to (wLoom G a0 v0) 5 [(0, .ref a0.1), (1, .int i0)] _ [.int r1] rfl rfl rfl rfl ?_
  refine v_iload_n (pc2 := 6) S 1 dX3_canBeOpen_5 rfl rfl rfl ?_
  refine v_iand (pc2 := 7) S dX3_canBeOpen_6 rfl ?_
  refine v_if_eq (pc2 := 10) (tgt := 12) S dX3_canBeOpen_7 (by decide) rfl (fun c3 => ?_) (fun c3 => ?_)
  · have hw := hw.1 c3
    refine v_iconst (v := 0) (pc2 := 13) S dX3_canBeOpen_12 (by decide) rfl ?_
    refine v_istore_n (lv2 := [(0, .ref a0.1), (1, .int i0), (2, .int (0 : Int32))]) (pc2 := 14) S dX3_canBeOpen_13 rfl (by decide) [1, 2, 0] rfl rfl ?_
    obtain ⟨kk, hw⟩ := hw
    exact L14 i0 kk (0 : Int32) hw
  · have hw := hw.2 c3
    refine v_iconst (v := 0) (pc2 := 11) S dX3_canBeOpen_10 (by decide) rfl ?_
    exact v_zret S (by decide) ⟨(0 : Int32), (), rfl, (by decide), rfl, hw⟩ dX3_canBeOpen_11
set_option maxHeartbeats 4000000 in
set_option maxRecDepth 100000 in
theorem c_X3_afterCords (l : Launch) (G : GG) (a0 : LoomA) (v0 : LoomV) (i0 : Int32) (i1 : Int32) (Q : Int32 → Prop) (hw : wp_X3_afterCords v0 i0 i1 Q) : Con l G yX3_afterCords cX3_afterCords 3 (some .int) { frames := 1, cells := 0, slots := 0, locals := 21 } [.ref a0.1, .int i0, .int i1] (wLoom G a0 v0) (PI (fun _ : Unit => wLoom G a0 v0) (fun r _ => Q r)) 0 0 := by
  refine con_of RX3 rfl (by decide) [(0, .ref a0.1), (1, .int i0), (2, .int i1)] rfl (Nat.le_of_ble_eq_true rfl) ?_
  intro p e s m args below meth c S hname
  refine v_iload_n (pc2 := 1) S 1 dX3_afterCords_0 rfl rfl rfl ?_
  refine v_iconst (v := 1) (pc2 := 2) S dX3_afterCords_1 (by decide) rfl ?_
  refine v_iload_n (pc2 := 3) S 2 dX3_afterCords_2 rfl rfl rfl ?_
  refine v_ishl (pc2 := 4) S dX3_afterCords_3 rfl ?_
  refine v_ior (pc2 := 5) S dX3_afterCords_4 rfl ?_
  refine v_aload_n (pc2 := 6) S 0 dX3_afterCords_5 rfl rfl rfl ?_
  refine v_iload_n (pc2 := 7) S 2 dX3_afterCords_6 rfl rfl rfl ?_
  refine v_callV (pc2 := 10) (As := [.int i1]) (rest := [.int (i0 ||| ((1 : Int32) <<< (i1 &&& 31)))]) S (c_X3_targetsOf l G a0 v0 i1 _ hw) mf_X3_targetsOf u_342 u_343 u_344 0 3 rfl rfl rfl rfl ⟨rfl, rfl⟩ ⟨Nat.le_of_ble_eq_true rfl, Nat.le_of_ble_eq_true rfl⟩ ⟨Nat.le_of_ble_eq_true rfl, Nat.le_of_ble_eq_true rfl⟩ (Nat.le_of_ble_eq_true rfl) dX3_afterCords_7 (frW _) rfl (pi (fun r1 u2 hw => ?_))
  refine v_to (wLoom G a0 v0) 10 [(0, .ref a0.1), (1, .int i0), (2, .int i1)] _ [.int r1, .int (i0 ||| ((1 : Int32) <<< (i1 &&& 31)))] rfl rfl rfl rfl ?_
  refine v_iconst (v := -1) (pc2 := 11) S dX3_afterCords_10 (by decide) rfl ?_
  refine v_ixor (pc2 := 12) S dX3_afterCords_11 rfl ?_
  refine v_iand (pc2 := 13) S dX3_afterCords_12 rfl ?_
  exact v_iret S ⟨(i0 ||| ((1 : Int32) <<< (i1 &&& 31))) &&& (r1 ^^^ (-1 : Int32)), (), rfl, rfl, hw⟩ dX3_afterCords_13
set_option maxHeartbeats 4000000 in
set_option maxRecDepth 100000 in
theorem c_X8_without (l : Launch) (G : GG) (i0 : Int32) (i1 : Int32) (Q : Int32 → Prop) (hw : wp_X8_without i0 i1 Q) : Con l G yX8_without cX8_without 2 (some .int) { frames := 0, cells := 0, slots := 0, locals := 0 } [.int i0, .int i1] ([]) (PI (fun _ : Unit => []) (fun r _ => Q r)) 0 0 := by
  refine con_of RX8 rfl (by decide) [(0, .int i0), (1, .int i1)] rfl (Nat.le_of_ble_eq_true rfl) ?_
  intro p e s m args below meth c S hname
  refine v_iload_n (pc2 := 1) S 0 dX8_without_0 rfl rfl rfl ?_
  refine v_iconst (v := 1) (pc2 := 2) S dX8_without_1 (by decide) rfl ?_
  refine v_iload_n (pc2 := 3) S 1 dX8_without_2 rfl rfl rfl ?_
  refine v_ishl (pc2 := 4) S dX8_without_3 rfl ?_
  refine v_iconst (v := -1) (pc2 := 5) S dX8_without_4 (by decide) rfl ?_
  refine v_ixor (pc2 := 6) S dX8_without_5 rfl ?_
  refine v_iand (pc2 := 7) S dX8_without_6 rfl ?_
  exact v_iret S ⟨i0 &&& (((1 : Int32) <<< (i1 &&& 31)) ^^^ (-1 : Int32)), (), rfl, rfl, hw⟩ dX8_without_7
set_option maxHeartbeats 4000000 in
set_option maxRecDepth 100000 in
theorem c_X3_afterDrafts (l : Launch) (G : GG) (a0 : LoomA) (v0 : LoomV) (i0 : Int32) (i1 : Int32) (Q : Int32 → Prop) (hw : wp_X3_afterDrafts v0 i0 i1 Q) : Con l G yX3_afterDrafts cX3_afterDrafts 8 (some .int) { frames := 2, cells := 0, slots := 0, locals := 42 } [.ref a0.1, .int i0, .int i1] (wLoom G a0 v0) (PI (fun _ : Unit => wLoom G a0 v0) (fun r _ => Q r)) 0 0 := by
  refine con_of RX3 rfl (by decide) [(0, .ref a0.1), (1, .int i0), (2, .int i1)] rfl (Nat.le_of_ble_eq_true rfl) ?_
  intro p e s m args below meth c S hname
  have L15 : ∀ (x2 : Int32) (x4 : Int32) (K5 : Int32 → Int32 → Prop) (hK5 : ∀ (y0 : Int32) (y1 : Int32), K5 y0 y1 → V p l e { frames := 2, cells := 0, slots := 0, locals := 42 } s m args below meth c G (va_A (wLoom G a0 v0) s.heap.size) 8 0 0 (MQ below (EQ G (wLoom G a0 v0) s.heap.size (PI (fun _ : Unit => wLoom G a0 v0) (fun r _ => Q r))) args s 0 0 (va_A (wLoom G a0 v0) s.heap.size)) (wLoom G a0 v0) 5 [(0, .ref a0.1), (2, .int x2), (3, .int y0), (4, .int y1)] []) (kk : Nat) (x3 : Int32) (x5 : Int32), wp_X3_afterDrafts_L15 v0 x2 x4 Q K5 kk x3 x5 → V p l e { frames := 2, cells := 0, slots := 0, locals := 42 } s m args below meth c G (va_A (wLoom G a0 v0) s.heap.size) 8 0 0 (MQ below (EQ G (wLoom G a0 v0) s.heap.size (PI (fun _ : Unit => wLoom G a0 v0) (fun r _ => Q r))) args s 0 0 (va_A (wLoom G a0 v0) s.heap.size)) (wLoom G a0 v0) 15 [(0, .ref a0.1), (2, .int x2), (3, .int x3), (4, .int x4), (5, .int x5)] [] := by
    intro x2 x4 K5 hK5 kk
    induction kk with
    | zero => intro x3 x5 hw; exact hw.elim
    | succ n ih =>
      intro x3 x5 hw
      refine v_iload (pc2 := 17) S 4 dX3_afterDrafts_15 rfl rfl ?_
      refine v_bipush (v := 10) (pc2 := 19) S dX3_afterDrafts_17 (by decide) rfl ?_
      refine v_icmp_ge (pc2 := 22) (tgt := 68) S dX3_afterDrafts_19 (by decide) rfl (fun c2 => ?_) (fun c2 => ?_)
      · have hw := hw.1 c2
        obtain ⟨z3, ez3⟩ : ∃ y : Int32, y = x4 + (1 : Int32) := ⟨_, rfl⟩
        have hw := hw z3 ez3
        refine v_iinc (v := z3) (lv2 := [(0, .ref a0.1), (2, .int x2), (3, .int x3), (4, .int z3), (5, .int x5)]) (pc2 := 71) S 3 dX3_afterDrafts_68 rfl (by rw [ez3]; rfl) (by decide) [1, 2, 3, 0, 4] rfl rfl ?_
        refine v_goto (tgt := 5) S dX3_afterDrafts_71 (by decide) ?_
        refine v_lv [(0, .ref a0.1), (2, .int x2), (3, .int x3), (4, .int z3)] [0, 1, 2, 3] rfl ?_
        exact hK5 x3 z3 hw
      · have hw := hw.2 c2
        refine v_aload_n (pc2 := 23) S 0 dX3_afterDrafts_22 rfl rfl rfl ?_
        refine v_iload (pc2 := 25) S 3 dX3_afterDrafts_23 rfl rfl ?_
        refine v_iload_n (pc2 := 26) S 2 dX3_afterDrafts_25 rfl rfl rfl ?_
        refine v_callV (pc2 := 29) (As := [.int x4, .int x3]) (rest := []) S (c_X3_hasTooMany l G a0 v0 x4 x3 _ hw) mf_X3_hasTooMany u_362 u_364 u_1 0 3 rfl rfl rfl rfl ⟨rfl, rfl⟩ ⟨Nat.le_of_ble_eq_true rfl, Nat.le_of_ble_eq_true rfl⟩ ⟨Nat.le_of_ble_eq_true rfl, Nat.le_of_ble_eq_true rfl⟩ (Nat.le_of_ble_eq_true rfl) dX3_afterDrafts_26 (frW _) rfl (pb (fun r4 u5 br4 hw => ?_))
        refine v_to (wLoom G a0 v0) 29 [(0, .ref a0.1), (2, .int x2), (3, .int x3), (4, .int x4), (5, .int x5)] _ [.int r4] rfl rfl rfl rfl ?_
        refine v_if_eq (pc2 := 32) (tgt := 68) S dX3_afterDrafts_29 (by decide) rfl (fun c6 => ?_) (fun c6 => ?_)
        · have hw := hw.1 c6
          obtain ⟨z7, ez7⟩ : ∃ y : Int32, y = x4 + (1 : Int32) := ⟨_, rfl⟩
          have hw := hw z7 ez7
          refine v_iinc (v := z7) (lv2 := [(0, .ref a0.1), (2, .int x2), (3, .int x3), (4, .int z7), (5, .int x5)]) (pc2 := 71) S 3 dX3_afterDrafts_68 rfl (by rw [ez7]; rfl) (by decide) [1, 2, 3, 0, 4] rfl rfl ?_
          refine v_goto (tgt := 5) S dX3_afterDrafts_71 (by decide) ?_
          refine v_lv [(0, .ref a0.1), (2, .int x2), (3, .int x3), (4, .int z7)] [0, 1, 2, 3] rfl ?_
          exact hK5 x3 z7 hw
        · have hw := hw.2 c6
          refine v_iload_n (pc2 := 33) S 2 dX3_afterDrafts_32 rfl rfl rfl ?_
          refine v_aload_n (pc2 := 34) S 0 dX3_afterDrafts_33 rfl rfl rfl ?_
          refine v_get (v := .ref a0.2.2.2.2.2) (pc2 := 37) S gf_X3_24 0 rfl rfl dX3_afterDrafts_34 rfl ?_
          refine v_iload (pc2 := 39) S 3 dX3_afterDrafts_37 rfl rfl ?_
          obtain ⟨h8, hw⟩ := hw
          refine v_iald (pc2 := 40) S 5 rfl h8 dX3_afterDrafts_39 rfl ?_
          refine v_iand (pc2 := 41) S dX3_afterDrafts_40 rfl ?_
          refine v_iload_n (pc2 := 42) S 1 dX3_afterDrafts_41 rfl rfl rfl ?_
          refine v_callSN (pc2 := 45) (As := [.int (x3 &&& (v0.2.2.2.2.1 x4.toNatClampNeg)), .int x2]) (rest := []) S (c_X8_without l G (x3 &&& (v0.2.2.2.2.1 x4.toNatClampNeg)) x2 _ hw) mf_X8_without u_372 u_373 rfl rfl ⟨rfl, rfl⟩ ⟨Nat.le_of_ble_eq_true rfl, Nat.le_of_ble_eq_true rfl⟩ ⟨Nat.le_of_ble_eq_true rfl, Nat.le_of_ble_eq_true rfl⟩ (Nat.le_of_ble_eq_true rfl) dX3_afterDrafts_42 (frM [] [] _) rfl (pi (fun r9 u10 hw => ?_))
          refine v_to (wLoom G a0 v0) 45 [(0, .ref a0.1), (2, .int x2), (3, .int x3), (4, .int x4), (5, .int x5)] _ [.int r9] rfl rfl rfl rfl ?_
          refine v_istore (lv2 := [(0, .ref a0.1), (2, .int x2), (3, .int x3), (4, .int x4), (5, .int x5), (6, .int r9)]) (pc2 := 47) S dX3_afterDrafts_45 (by decide) [1, 2, 3, 4, 5, 0] rfl rfl ?_
          refine v_iload (pc2 := 49) S 5 dX3_afterDrafts_47 rfl rfl ?_
          refine v_iload (pc2 := 51) S 5 dX3_afterDrafts_49 rfl rfl ?_
          refine v_ineg (pc2 := 52) S dX3_afterDrafts_51 rfl ?_
          refine v_iand (pc2 := 53) S dX3_afterDrafts_52 rfl ?_
          refine v_nm (fun z11 ez11 => ?_)
          have hw := hw z11 ez11
          refine v_istore (lv2 := [(0, .ref a0.1), (2, .int x2), (3, .int x3), (4, .int x4), (5, .int x5), (6, .int r9), (7, .int z11)]) (pc2 := 55) S dX3_afterDrafts_53 (by decide) [1, 2, 3, 4, 5, 6, 0] rfl rfl ?_
          refine v_iload_n (pc2 := 56) S 2 dX3_afterDrafts_55 rfl rfl rfl ?_
          refine v_iload (pc2 := 58) S 6 dX3_afterDrafts_56 rfl rfl ?_
          refine v_iconst (v := -1) (pc2 := 59) S dX3_afterDrafts_58 (by decide) rfl ?_
          refine v_ixor (pc2 := 60) S dX3_afterDrafts_59 rfl ?_
          refine v_iand (pc2 := 61) S dX3_afterDrafts_60 rfl ?_
          refine v_nm (fun z12 ez12 => ?_)
          have hw := hw z12 ez12
          refine v_istore_n (lv2 := [(0, .ref a0.1), (2, .int x2), (3, .int z12), (4, .int x4), (5, .int x5), (6, .int r9), (7, .int z11)]) (pc2 := 62) S dX3_afterDrafts_61 rfl (by decide) [1, 2, 0, 3, 4, 5, 6] rfl rfl ?_
          obtain ⟨z13, ez13⟩ : ∃ y : Int32, y = x5 + (1 : Int32) := ⟨_, rfl⟩
          have hw := hw z13 ez13
          refine v_iinc (v := z13) (lv2 := [(0, .ref a0.1), (2, .int x2), (3, .int z12), (4, .int x4), (5, .int z13), (6, .int r9), (7, .int z11)]) (pc2 := 65) S 4 dX3_afterDrafts_62 rfl (by rw [ez13]; rfl) (by decide) [1, 2, 3, 4, 0, 5, 6] rfl rfl ?_
          refine v_goto (tgt := 15) S dX3_afterDrafts_65 (by decide) ?_
          refine v_lv [(0, .ref a0.1), (2, .int x2), (3, .int z12), (4, .int x4), (5, .int z13)] [0, 1, 2, 3, 4] rfl ?_
          exact ih z12 z13 hw
  have L5 : ∀ (x2 : Int32) (kk : Nat) (x3 : Int32) (x4 : Int32), wp_X3_afterDrafts_L5 v0 x2 Q kk x3 x4 → V p l e { frames := 2, cells := 0, slots := 0, locals := 42 } s m args below meth c G (va_A (wLoom G a0 v0) s.heap.size) 8 0 0 (MQ below (EQ G (wLoom G a0 v0) s.heap.size (PI (fun _ : Unit => wLoom G a0 v0) (fun r _ => Q r))) args s 0 0 (va_A (wLoom G a0 v0) s.heap.size)) (wLoom G a0 v0) 5 [(0, .ref a0.1), (2, .int x2), (3, .int x3), (4, .int x4)] [] := by
    intro x2 kk
    induction kk with
    | zero => intro x3 x4 hw; exact hw.elim
    | succ n ih =>
      intro x3 x4 hw
      refine v_iload (pc2 := 7) S 3 dX3_afterDrafts_5 rfl rfl ?_
      refine v_bipush (v := 6) (pc2 := 9) S dX3_afterDrafts_7 (by decide) rfl ?_
      refine v_icmp_ge (pc2 := 12) (tgt := 74) S dX3_afterDrafts_9 (by decide) rfl (fun c1 => ?_) (fun c1 => ?_)
      · have hw := hw.1 c1
        refine v_iload_n (pc2 := 75) S 2 dX3_afterDrafts_74 rfl rfl rfl ?_
        exact v_iret S ⟨x3, (), rfl, rfl, hw⟩ dX3_afterDrafts_75
      · have hw := hw.2 c1
        refine v_iconst (v := 0) (pc2 := 13) S dX3_afterDrafts_12 (by decide) rfl ?_
        refine v_istore (lv2 := [(0, .ref a0.1), (2, .int x2), (3, .int x3), (4, .int x4), (5, .int (0 : Int32))]) (pc2 := 15) S dX3_afterDrafts_13 (by decide) [1, 2, 3, 4, 0] rfl rfl ?_
        obtain ⟨kk, hw⟩ := hw
        exact L15 x2 x4 (wp_X3_afterDrafts_L5 v0 x2 Q n) ih kk x3 (0 : Int32) hw
  refine v_iload_n (pc2 := 1) S 1 dX3_afterDrafts_0 rfl rfl rfl ?_
  refine v_istore_n (lv2 := [(0, .ref a0.1), (1, .int i0), (2, .int i1), (3, .int i0)]) (pc2 := 2) S dX3_afterDrafts_1 rfl (by decide) [1, 2, 3, 0] rfl rfl ?_
  refine v_iconst (v := 0) (pc2 := 3) S dX3_afterDrafts_2 (by decide) rfl ?_
  refine v_istore (lv2 := [(0, .ref a0.1), (1, .int i0), (2, .int i1), (3, .int i0), (4, .int (0 : Int32))]) (pc2 := 5) S dX3_afterDrafts_3 (by decide) [1, 2, 3, 4, 0] rfl rfl ?_
  refine v_lv [(0, .ref a0.1), (2, .int i1), (3, .int i0), (4, .int (0 : Int32))] [0, 2, 3, 4] rfl ?_
  obtain ⟨kk, hw⟩ := hw
  exact L5 i1 kk i0 (0 : Int32) hw
set_option maxHeartbeats 4000000 in
set_option maxRecDepth 100000 in
theorem c_X3_afterOpening (l : Launch) (G : GG) (a0 : LoomA) (v0 : LoomV) (i0 : Int32) (i1 : Int32) (Q : Int32 → Prop) (hw : wp_X3_afterOpening v0 i0 i1 Q) : Con l G yX3_afterOpening cX3_afterOpening 3 (some .int) { frames := 3, cells := 0, slots := 0, locals := 69 } [.ref a0.1, .int i0, .int i1] (wLoom G a0 v0) (PI (fun _ : Unit => wLoom G a0 v0) (fun r _ => Q r)) 0 0 := by
  refine con_of RX3 rfl (by decide) [(0, .ref a0.1), (1, .int i0), (2, .int i1)] rfl (Nat.le_of_ble_eq_true rfl) ?_
  intro p e s m args below meth c S hname
  refine v_aload_n (pc2 := 1) S 0 dX3_afterOpening_0 rfl rfl rfl ?_
  refine v_aload_n (pc2 := 2) S 0 dX3_afterOpening_1 rfl rfl rfl ?_
  refine v_iload_n (pc2 := 3) S 1 dX3_afterOpening_2 rfl rfl rfl ?_
  refine v_iload_n (pc2 := 4) S 2 dX3_afterOpening_3 rfl rfl rfl ?_
  refine v_callV (pc2 := 7) (As := [.int i0, .int i1]) (rest := [.ref a0.1]) S (c_X3_afterCords l G a0 v0 i0 i1 _ hw) mf_X3_afterCords u_673 u_355 u_356 0 3 rfl rfl rfl rfl ⟨rfl, rfl⟩ ⟨Nat.le_of_ble_eq_true rfl, Nat.le_of_ble_eq_true rfl⟩ ⟨Nat.le_of_ble_eq_true rfl, Nat.le_of_ble_eq_true rfl⟩ (Nat.le_of_ble_eq_true rfl) dX3_afterOpening_4 (frW _) rfl (pi (fun r1 u2 hw => ?_))
  refine v_to (wLoom G a0 v0) 7 [(0, .ref a0.1), (1, .int i0), (2, .int i1)] _ [.int r1, .ref a0.1] rfl rfl rfl rfl ?_
  refine v_iload_n (pc2 := 8) S 2 dX3_afterOpening_7 rfl rfl rfl ?_
  refine v_callV (pc2 := 11) (As := [.int r1, .int i1]) (rest := []) S (c_X3_afterDrafts l G a0 v0 r1 i1 _ hw) mf_X3_afterDrafts u_674 u_359 u_360 0 3 rfl rfl rfl rfl ⟨rfl, rfl⟩ ⟨Nat.le_of_ble_eq_true rfl, Nat.le_of_ble_eq_true rfl⟩ ⟨Nat.le_of_ble_eq_true rfl, Nat.le_of_ble_eq_true rfl⟩ (Nat.le_of_ble_eq_true rfl) dX3_afterOpening_8 (frW _) rfl (pi (fun r3 u4 hw => ?_))
  refine v_to (wLoom G a0 v0) 11 [(0, .ref a0.1), (1, .int i0), (2, .int i1)] _ [.int r3] rfl rfl rfl rfl ?_
  exact v_iret S ⟨r3, (), rfl, rfl, hw⟩ dX3_afterOpening_11
set_option maxHeartbeats 4000000 in
set_option maxRecDepth 100000 in
theorem c_X3_hallsFrom (l : Launch) (G : GG) (a0 : LoomA) (v0 : LoomV) (i0 : Int32) (i1 : Int32) (Q : Int32 → Prop) (hw : wp_X3_hallsFrom v0 i0 i1 Q) : Con l G yX3_hallsFrom cX3_hallsFrom 7 (some .int) { frames := 1, cells := 0, slots := 0, locals := 21 } [.ref a0.1, .int i0, .int i1] (wLoom G a0 v0) (PI (fun _ : Unit => wLoom G a0 v0) (fun r _ => Q r)) 0 0 := by
  refine con_of RX3 rfl (by decide) [(0, .ref a0.1), (1, .int i0), (2, .int i1)] rfl (Nat.le_of_ble_eq_true rfl) ?_
  intro p e s m args below meth c S hname
  have L17 : ∀ (x2 : Int32) (x4 : Int32) (K7 : Int32 → Int32 → Prop) (hK7 : ∀ (y0 : Int32) (y1 : Int32), K7 y0 y1 → V p l e { frames := 1, cells := 0, slots := 0, locals := 21 } s m args below meth c G (va_A (wLoom G a0 v0) s.heap.size) 7 0 0 (MQ below (EQ G (wLoom G a0 v0) s.heap.size (PI (fun _ : Unit => wLoom G a0 v0) (fun r _ => Q r))) args s 0 0 (va_A (wLoom G a0 v0) s.heap.size)) (wLoom G a0 v0) 7 [(0, .ref a0.1), (2, .int x2), (3, .int y0), (4, .int y1)] []) (kk : Nat) (x3 : Int32) (x5 : Int32), wp_X3_hallsFrom_L17 v0 x2 x4 Q K7 kk x3 x5 → V p l e { frames := 1, cells := 0, slots := 0, locals := 21 } s m args below meth c G (va_A (wLoom G a0 v0) s.heap.size) 7 0 0 (MQ below (EQ G (wLoom G a0 v0) s.heap.size (PI (fun _ : Unit => wLoom G a0 v0) (fun r _ => Q r))) args s 0 0 (va_A (wLoom G a0 v0) s.heap.size)) (wLoom G a0 v0) 17 [(0, .ref a0.1), (2, .int x2), (3, .int x3), (4, .int x4), (5, .int x5)] [] := by
    intro x2 x4 K7 hK7 kk
    induction kk with
    | zero => intro x3 x5 hw; exact hw.elim
    | succ n ih =>
      intro x3 x5 hw
      refine v_iload (pc2 := 19) S 4 dX3_hallsFrom_17 rfl rfl ?_
      refine v_bipush (v := 10) (pc2 := 21) S dX3_hallsFrom_19 (by decide) rfl ?_
      refine v_icmp_ge (pc2 := 24) (tgt := 72) S dX3_hallsFrom_21 (by decide) rfl (fun c3 => ?_) (fun c3 => ?_)
      · have hw := hw.1 c3
        obtain ⟨z4, ez4⟩ : ∃ y : Int32, y = x4 + (1 : Int32) := ⟨_, rfl⟩
        have hw := hw z4 ez4
        refine v_iinc (v := z4) (lv2 := [(0, .ref a0.1), (2, .int x2), (3, .int x3), (4, .int z4), (5, .int x5)]) (pc2 := 75) S 3 dX3_hallsFrom_72 rfl (by rw [ez4]; rfl) (by decide) [1, 2, 3, 0, 4] rfl rfl ?_
        refine v_goto (tgt := 7) S dX3_hallsFrom_75 (by decide) ?_
        refine v_lv [(0, .ref a0.1), (2, .int x2), (3, .int x3), (4, .int z4)] [0, 1, 2, 3] rfl ?_
        exact hK7 x3 z4 hw
      · have hw := hw.2 c3
        refine v_iconst (v := 1) (pc2 := 25) S dX3_hallsFrom_24 (by decide) rfl ?_
        refine v_aload_n (pc2 := 26) S 0 dX3_hallsFrom_25 rfl rfl rfl ?_
        refine v_get (v := .ref a0.2.2.2.1) (pc2 := 29) S gf_X3_18 0 rfl rfl dX3_hallsFrom_26 rfl ?_
        refine v_iload (pc2 := 31) S 4 dX3_hallsFrom_29 rfl rfl ?_
        obtain ⟨h5, hw⟩ := hw
        refine v_iald (pc2 := 32) S 3 rfl h5 dX3_hallsFrom_31 rfl ?_
        refine v_ishl (pc2 := 33) S dX3_hallsFrom_32 rfl ?_
        refine v_iconst (v := 1) (pc2 := 34) S dX3_hallsFrom_33 (by decide) rfl ?_
        refine v_aload_n (pc2 := 35) S 0 dX3_hallsFrom_34 rfl rfl rfl ?_
        refine v_get (v := .ref a0.2.2.2.2.1) (pc2 := 38) S gf_X3_21 0 rfl rfl dX3_hallsFrom_35 rfl ?_
        refine v_iload (pc2 := 40) S 4 dX3_hallsFrom_38 rfl rfl ?_
        obtain ⟨h6, hw⟩ := hw
        refine v_iald (pc2 := 41) S 4 rfl h6 dX3_hallsFrom_40 rfl ?_
        refine v_ishl (pc2 := 42) S dX3_hallsFrom_41 rfl ?_
        refine v_ior (pc2 := 43) S dX3_hallsFrom_42 rfl ?_
        refine v_nm (fun z7 ez7 => ?_)
        have hw := hw z7 ez7
        refine v_istore (lv2 := [(0, .ref a0.1), (2, .int x2), (3, .int x3), (4, .int x4), (5, .int x5), (6, .int z7)]) (pc2 := 45) S dX3_hallsFrom_43 (by decide) [1, 2, 3, 4, 5, 0] rfl rfl ?_
        refine v_iload_n (pc2 := 46) S 1 dX3_hallsFrom_45 rfl rfl rfl ?_
        refine v_iload (pc2 := 48) S 4 dX3_hallsFrom_46 rfl rfl ?_
        refine v_callSN (pc2 := 51) (As := [.int x2, .int x5]) (rest := []) S (c_X8_has l G x2 x5 _ hw) mf_X8_has u_341 u_335 rfl rfl ⟨rfl, rfl⟩ ⟨Nat.le_of_ble_eq_true rfl, Nat.le_of_ble_eq_true rfl⟩ ⟨Nat.le_of_ble_eq_true rfl, Nat.le_of_ble_eq_true rfl⟩ (Nat.le_of_ble_eq_true rfl) dX3_hallsFrom_48 (frM [] [] _) rfl (pb (fun r8 u9 br8 hw => ?_))
        refine v_to (wLoom G a0 v0) 51 [(0, .ref a0.1), (2, .int x2), (3, .int x3), (4, .int x4), (5, .int x5), (6, .int z7)] _ [.int r8] rfl rfl rfl rfl ?_
        refine v_if_eq (pc2 := 54) (tgt := 66) S dX3_hallsFrom_51 (by decide) rfl (fun c10 => ?_) (fun c10 => ?_)
        · have hw := hw.1 c10
          obtain ⟨z11, ez11⟩ : ∃ y : Int32, y = x5 + (1 : Int32) := ⟨_, rfl⟩
          have hw := hw z11 ez11
          refine v_iinc (v := z11) (lv2 := [(0, .ref a0.1), (2, .int x2), (3, .int x3), (4, .int x4), (5, .int z11), (6, .int z7)]) (pc2 := 69) S 4 dX3_hallsFrom_66 rfl (by rw [ez11]; rfl) (by decide) [1, 2, 3, 4, 0, 5] rfl rfl ?_
          refine v_goto (tgt := 17) S dX3_hallsFrom_69 (by decide) ?_
          refine v_lv [(0, .ref a0.1), (2, .int x2), (3, .int x3), (4, .int x4), (5, .int z11)] [0, 1, 2, 3, 4] rfl ?_
          exact ih x3 z11 hw
        · have hw := hw.2 c10
          refine v_iload_n (pc2 := 55) S 2 dX3_hallsFrom_54 rfl rfl rfl ?_
          refine v_iload (pc2 := 57) S 5 dX3_hallsFrom_55 rfl rfl ?_
          refine v_iand (pc2 := 58) S dX3_hallsFrom_57 rfl ?_
          refine v_if_eq (pc2 := 61) (tgt := 66) S dX3_hallsFrom_58 (by decide) rfl (fun c12 => ?_) (fun c12 => ?_)
          · have hw := hw.1 c12
            obtain ⟨z13, ez13⟩ : ∃ y : Int32, y = x5 + (1 : Int32) := ⟨_, rfl⟩
            have hw := hw z13 ez13
            refine v_iinc (v := z13) (lv2 := [(0, .ref a0.1), (2, .int x2), (3, .int x3), (4, .int x4), (5, .int z13), (6, .int z7)]) (pc2 := 69) S 4 dX3_hallsFrom_66 rfl (by rw [ez13]; rfl) (by decide) [1, 2, 3, 4, 0, 5] rfl rfl ?_
            refine v_goto (tgt := 17) S dX3_hallsFrom_69 (by decide) ?_
            refine v_lv [(0, .ref a0.1), (2, .int x2), (3, .int x3), (4, .int x4), (5, .int z13)] [0, 1, 2, 3, 4] rfl ?_
            exact ih x3 z13 hw
          · have hw := hw.2 c12
            refine v_iload_n (pc2 := 62) S 2 dX3_hallsFrom_61 rfl rfl rfl ?_
            refine v_iload (pc2 := 64) S 5 dX3_hallsFrom_62 rfl rfl ?_
            refine v_ior (pc2 := 65) S dX3_hallsFrom_64 rfl ?_
            refine v_nm (fun z14 ez14 => ?_)
            have hw := hw z14 ez14
            refine v_istore_n (lv2 := [(0, .ref a0.1), (2, .int x2), (3, .int z14), (4, .int x4), (5, .int x5), (6, .int z7)]) (pc2 := 66) S dX3_hallsFrom_65 rfl (by decide) [1, 2, 0, 3, 4, 5] rfl rfl ?_
            obtain ⟨z15, ez15⟩ : ∃ y : Int32, y = x5 + (1 : Int32) := ⟨_, rfl⟩
            have hw := hw z15 ez15
            refine v_iinc (v := z15) (lv2 := [(0, .ref a0.1), (2, .int x2), (3, .int z14), (4, .int x4), (5, .int z15), (6, .int z7)]) (pc2 := 69) S 4 dX3_hallsFrom_66 rfl (by rw [ez15]; rfl) (by decide) [1, 2, 3, 4, 0, 5] rfl rfl ?_
            refine v_goto (tgt := 17) S dX3_hallsFrom_69 (by decide) ?_
            refine v_lv [(0, .ref a0.1), (2, .int x2), (3, .int z14), (4, .int x4), (5, .int z15)] [0, 1, 2, 3, 4] rfl ?_
            exact ih z14 z15 hw
  have L7 : ∀ (x2 : Int32) (kk : Nat) (x3 : Int32) (x4 : Int32), wp_X3_hallsFrom_L7 v0 x2 Q kk x3 x4 → V p l e { frames := 1, cells := 0, slots := 0, locals := 21 } s m args below meth c G (va_A (wLoom G a0 v0) s.heap.size) 7 0 0 (MQ below (EQ G (wLoom G a0 v0) s.heap.size (PI (fun _ : Unit => wLoom G a0 v0) (fun r _ => Q r))) args s 0 0 (va_A (wLoom G a0 v0) s.heap.size)) (wLoom G a0 v0) 7 [(0, .ref a0.1), (2, .int x2), (3, .int x3), (4, .int x4)] [] := by
    intro x2 kk
    induction kk with
    | zero => intro x3 x4 hw; exact hw.elim
    | succ n ih =>
      intro x3 x4 hw
      refine v_iload (pc2 := 9) S 3 dX3_hallsFrom_7 rfl rfl ?_
      refine v_bipush (v := 6) (pc2 := 11) S dX3_hallsFrom_9 (by decide) rfl ?_
      refine v_icmp_ge (pc2 := 14) (tgt := 78) S dX3_hallsFrom_11 (by decide) rfl (fun c2 => ?_) (fun c2 => ?_)
      · have hw := hw.1 c2
        refine v_iload_n (pc2 := 79) S 2 dX3_hallsFrom_78 rfl rfl rfl ?_
        exact v_iret S ⟨x3, (), rfl, rfl, hw⟩ dX3_hallsFrom_79
      · have hw := hw.2 c2
        refine v_iconst (v := 0) (pc2 := 15) S dX3_hallsFrom_14 (by decide) rfl ?_
        refine v_istore (lv2 := [(0, .ref a0.1), (2, .int x2), (3, .int x3), (4, .int x4), (5, .int (0 : Int32))]) (pc2 := 17) S dX3_hallsFrom_15 (by decide) [1, 2, 3, 4, 0] rfl rfl ?_
        obtain ⟨kk, hw⟩ := hw
        exact L17 x2 x4 (wp_X3_hallsFrom_L7 v0 x2 Q n) ih kk x3 (0 : Int32) hw
  refine v_iconst (v := 1) (pc2 := 1) S dX3_hallsFrom_0 (by decide) rfl ?_
  refine v_iload_n (pc2 := 2) S 1 dX3_hallsFrom_1 rfl rfl rfl ?_
  refine v_ishl (pc2 := 3) S dX3_hallsFrom_2 rfl ?_
  refine v_nm (fun z1 ez1 => ?_)
  have hw := hw z1 ez1
  refine v_istore_n (lv2 := [(0, .ref a0.1), (1, .int i0), (2, .int i1), (3, .int z1)]) (pc2 := 4) S dX3_hallsFrom_3 rfl (by decide) [1, 2, 3, 0] rfl rfl ?_
  refine v_iconst (v := 0) (pc2 := 5) S dX3_hallsFrom_4 (by decide) rfl ?_
  refine v_istore (lv2 := [(0, .ref a0.1), (1, .int i0), (2, .int i1), (3, .int z1), (4, .int (0 : Int32))]) (pc2 := 7) S dX3_hallsFrom_5 (by decide) [1, 2, 3, 4, 0] rfl rfl ?_
  refine v_lv [(0, .ref a0.1), (2, .int i1), (3, .int z1), (4, .int (0 : Int32))] [0, 2, 3, 4] rfl ?_
  obtain ⟨kk, hw⟩ := hw
  exact L7 i1 kk z1 (0 : Int32) hw
set_option maxHeartbeats 4000000 in
set_option maxRecDepth 100000 in
theorem c_X3_pairsOfHalls (l : Launch) (G : GG) (a0 : LoomA) (v0 : LoomV) (i0 : Int32) (Q : Int32 → Prop) (hw : wp_X3_pairsOfHalls v0 i0 Q) : Con l G yX3_pairsOfHalls cX3_pairsOfHalls 4 (some .int) { frames := 2, cells := 0, slots := 0, locals := 47 } [.ref a0.1, .int i0] (wLoom G a0 v0) (PI (fun _ : Unit => wLoom G a0 v0) (fun r _ => Q r)) 0 0 := by
  refine con_of RX3 rfl (by decide) [(0, .ref a0.1), (1, .int i0)] rfl (Nat.le_of_ble_eq_true rfl) ?_
  intro p e s m args below meth c S hname
  have L4 : ∀ (x1 : Int32) (kk : Nat) (x2 : Int32) (x3 : Int32), wp_X3_pairsOfHalls_L4 v0 x1 Q kk x2 x3 → V p l e { frames := 2, cells := 0, slots := 0, locals := 47 } s m args below meth c G (va_A (wLoom G a0 v0) s.heap.size) 4 0 0 (MQ below (EQ G (wLoom G a0 v0) s.heap.size (PI (fun _ : Unit => wLoom G a0 v0) (fun r _ => Q r))) args s 0 0 (va_A (wLoom G a0 v0) s.heap.size)) (wLoom G a0 v0) 4 [(0, .ref a0.1), (1, .int x1), (2, .int x2), (3, .int x3)] [] := by
    intro x1 kk
    induction kk with
    | zero => intro x2 x3 hw; exact hw.elim
    | succ n ih =>
      intro x2 x3 hw
      refine v_iload_n (pc2 := 5) S 3 dX3_pairsOfHalls_4 rfl rfl rfl ?_
      refine v_bipush (v := 6) (pc2 := 7) S dX3_pairsOfHalls_5 (by decide) rfl ?_
      refine v_icmp_ge (pc2 := 10) (tgt := 30) S dX3_pairsOfHalls_7 (by decide) rfl (fun c1 => ?_) (fun c1 => ?_)
      · have hw := hw.1 c1
        refine v_iload_n (pc2 := 31) S 2 dX3_pairsOfHalls_30 rfl rfl rfl ?_
        refine v_iconst (v := 2) (pc2 := 32) S dX3_pairsOfHalls_31 (by decide) rfl ?_
        refine v_idiv (pc2 := 33) S (by decide) dX3_pairsOfHalls_32 rfl ?_
        exact v_iret S ⟨x2 / (2 : Int32), (), rfl, rfl, hw⟩ dX3_pairsOfHalls_33
      · have hw := hw.2 c1
        refine v_iload_n (pc2 := 11) S 2 dX3_pairsOfHalls_10 rfl rfl rfl ?_
        refine v_aload_n (pc2 := 12) S 0 dX3_pairsOfHalls_11 rfl rfl rfl ?_
        refine v_iload_n (pc2 := 13) S 3 dX3_pairsOfHalls_12 rfl rfl rfl ?_
        refine v_iload_n (pc2 := 14) S 1 dX3_pairsOfHalls_13 rfl rfl rfl ?_
        refine v_callV (pc2 := 17) (As := [.int x3, .int x1]) (rest := [.int x2]) S (c_X3_hallsFrom l G a0 v0 x3 x1 _ hw) mf_X3_hallsFrom u_709 u_604 u_605 0 3 rfl rfl rfl rfl ⟨rfl, rfl⟩ ⟨Nat.le_of_ble_eq_true rfl, Nat.le_of_ble_eq_true rfl⟩ ⟨Nat.le_of_ble_eq_true rfl, Nat.le_of_ble_eq_true rfl⟩ (Nat.le_of_ble_eq_true rfl) dX3_pairsOfHalls_14 (frW _) rfl (pi (fun r2 u3 hw => ?_))
        refine v_to (wLoom G a0 v0) 17 [(0, .ref a0.1), (1, .int x1), (2, .int x2), (3, .int x3)] _ [.int r2, .int x2] rfl rfl rfl rfl ?_
        refine v_callS (pc2 := 20) (As := [.int r2]) (rest := [.int x2]) S (c_J6_bitCount_0f7a4 l G r2 _ hw) mf_J6_bitCount_0f7a4 u_366 u_367 rfl rfl ⟨rfl, rfl⟩ ⟨Nat.le_of_ble_eq_true rfl, Nat.le_of_ble_eq_true rfl⟩ ⟨Nat.le_of_ble_eq_true rfl, Nat.le_of_ble_eq_true rfl⟩ (Nat.le_of_ble_eq_true rfl) dX3_pairsOfHalls_17 (frM [] [] _) rfl (pi (fun r4 u5 hw => ?_))
        refine v_to (wLoom G a0 v0) 20 [(0, .ref a0.1), (1, .int x1), (2, .int x2), (3, .int x3)] _ [.int r4, .int x2] rfl rfl rfl rfl ?_
        refine v_iconst (v := 1) (pc2 := 21) S dX3_pairsOfHalls_20 (by decide) rfl ?_
        refine v_isub (pc2 := 22) S dX3_pairsOfHalls_21 rfl ?_
        refine v_iadd (pc2 := 23) S dX3_pairsOfHalls_22 rfl ?_
        refine v_nm (fun z6 ez6 => ?_)
        have hw := hw z6 ez6
        refine v_istore_n (lv2 := [(0, .ref a0.1), (1, .int x1), (2, .int z6), (3, .int x3)]) (pc2 := 24) S dX3_pairsOfHalls_23 rfl (by decide) [1, 2, 0, 3] rfl rfl ?_
        obtain ⟨z7, ez7⟩ : ∃ y : Int32, y = x3 + (1 : Int32) := ⟨_, rfl⟩
        have hw := hw z7 ez7
        refine v_iinc (v := z7) (lv2 := [(0, .ref a0.1), (1, .int x1), (2, .int z6), (3, .int z7)]) (pc2 := 27) S 3 dX3_pairsOfHalls_24 rfl (by rw [ez7]; rfl) (by decide) [1, 2, 3, 0] rfl rfl ?_
        refine v_goto (tgt := 4) S dX3_pairsOfHalls_27 (by decide) ?_
        exact ih z6 z7 hw
  refine v_iconst (v := 0) (pc2 := 1) S dX3_pairsOfHalls_0 (by decide) rfl ?_
  refine v_istore_n (lv2 := [(0, .ref a0.1), (1, .int i0), (2, .int (0 : Int32))]) (pc2 := 2) S dX3_pairsOfHalls_1 rfl (by decide) [1, 2, 0] rfl rfl ?_
  refine v_iconst (v := 0) (pc2 := 3) S dX3_pairsOfHalls_2 (by decide) rfl ?_
  refine v_istore_n (lv2 := [(0, .ref a0.1), (1, .int i0), (2, .int (0 : Int32)), (3, .int (0 : Int32))]) (pc2 := 4) S dX3_pairsOfHalls_3 rfl (by decide) [1, 2, 3, 0] rfl rfl ?_
  obtain ⟨kk, hw⟩ := hw
  exact L4 i0 kk (0 : Int32) (0 : Int32) hw
set_option maxHeartbeats 4000000 in
set_option maxRecDepth 100000 in
theorem c_X8_isGuest (l : Launch) (G : GG) (i0 : Int32) (Q : Int32 → Prop) (hw : wp_X8_isGuest i0 Q) : Con l G yX8_isGuest cX8_isGuest 1 (some .boolean) { frames := 0, cells := 0, slots := 0, locals := 0 } [.int i0] ([]) (PB (fun _ : Unit => []) (fun r _ => Q r)) 0 0 := by
  refine con_of RX8 rfl (by decide) [(0, .int i0)] rfl (Nat.le_of_ble_eq_true rfl) ?_
  intro p e s m args below meth c S hname
  refine v_iload_n (pc2 := 1) S 0 dX8_isGuest_0 rfl rfl rfl ?_
  refine v_if_lt (pc2 := 4) (tgt := 13) S dX8_isGuest_1 (by decide) rfl (fun c1 => ?_) (fun c1 => ?_)
  · have hw := hw.1 c1
    refine v_iconst (v := 0) (pc2 := 14) S dX8_isGuest_13 (by decide) rfl ?_
    exact v_zret S (by decide) ⟨(0 : Int32), (), rfl, (by decide), rfl, hw⟩ dX8_isGuest_14
  · have hw := hw.2 c1
    refine v_iload_n (pc2 := 5) S 0 dX8_isGuest_4 rfl rfl rfl ?_
    refine v_iconst (v := 3) (pc2 := 6) S dX8_isGuest_5 (by decide) rfl ?_
    refine v_icmp_ge (pc2 := 9) (tgt := 13) S dX8_isGuest_6 (by decide) rfl (fun c2 => ?_) (fun c2 => ?_)
    · have hw := hw.1 c2
      refine v_iconst (v := 0) (pc2 := 14) S dX8_isGuest_13 (by decide) rfl ?_
      exact v_zret S (by decide) ⟨(0 : Int32), (), rfl, (by decide), rfl, hw⟩ dX8_isGuest_14
    · have hw := hw.2 c2
      refine v_iconst (v := 1) (pc2 := 10) S dX8_isGuest_9 (by decide) rfl ?_
      refine v_goto (tgt := 14) S dX8_isGuest_10 (by decide) ?_
      exact v_zret S (by decide) ⟨(1 : Int32), (), rfl, (by decide), rfl, hw⟩ dX8_isGuest_14
set_option maxHeartbeats 4000000 in
set_option maxRecDepth 100000 in
theorem c_X8_isDoor (l : Launch) (G : GG) (i0 : Int32) (Q : Int32 → Prop) (hw : wp_X8_isDoor i0 Q) : Con l G yX8_isDoor cX8_isDoor 1 (some .boolean) { frames := 0, cells := 0, slots := 0, locals := 0 } [.int i0] ([]) (PB (fun _ : Unit => []) (fun r _ => Q r)) 0 0 := by
  refine con_of RX8 rfl (by decide) [(0, .int i0)] rfl (Nat.le_of_ble_eq_true rfl) ?_
  intro p e s m args below meth c S hname
  refine v_iload_n (pc2 := 1) S 0 dX8_isDoor_0 rfl rfl rfl ?_
  refine v_if_lt (pc2 := 4) (tgt := 14) S dX8_isDoor_1 (by decide) rfl (fun c1 => ?_) (fun c1 => ?_)
  · have hw := hw.1 c1
    refine v_iconst (v := 0) (pc2 := 15) S dX8_isDoor_14 (by decide) rfl ?_
    exact v_zret S (by decide) ⟨(0 : Int32), (), rfl, (by decide), rfl, hw⟩ dX8_isDoor_15
  · have hw := hw.2 c1
    refine v_iload_n (pc2 := 5) S 0 dX8_isDoor_4 rfl rfl rfl ?_
    refine v_bipush (v := 10) (pc2 := 7) S dX8_isDoor_5 (by decide) rfl ?_
    refine v_icmp_ge (pc2 := 10) (tgt := 14) S dX8_isDoor_7 (by decide) rfl (fun c2 => ?_) (fun c2 => ?_)
    · have hw := hw.1 c2
      refine v_iconst (v := 0) (pc2 := 15) S dX8_isDoor_14 (by decide) rfl ?_
      exact v_zret S (by decide) ⟨(0 : Int32), (), rfl, (by decide), rfl, hw⟩ dX8_isDoor_15
    · have hw := hw.2 c2
      refine v_iconst (v := 1) (pc2 := 11) S dX8_isDoor_10 (by decide) rfl ?_
      refine v_goto (tgt := 15) S dX8_isDoor_11 (by decide) ?_
      exact v_zret S (by decide) ⟨(1 : Int32), (), rfl, (by decide), rfl, hw⟩ dX8_isDoor_15
set_option maxHeartbeats 4000000 in
set_option maxRecDepth 100000 in
theorem c_J7_fill_53178 (l : Launch) (G : GG) (N0 : Nat) (a0 : Nat) (v0 : (Nat → Int32)) (i0 : Int32) (Q : (Nat → Int32) → Prop) (hw : wp_J7_fill_53178 N0 v0 i0 Q) : Con l G yJ7_fill_53178 cJ7_fill_53178 4 none { frames := 0, cells := 0, slots := 0, locals := 0 } [.ref a0, .int i0] ([(a0, .inl (G.2.1, N0, .inl v0))]) (PV (fun u : (Nat → Int32) => [(a0, .inl (G.2.1, N0, .inl u))]) Q) 0 0 := by
  refine con_of RJ7 rfl (by decide) [(0, .ref a0), (1, .int i0)] rfl (Nat.le_of_ble_eq_true rfl) ?_
  intro p e s m args below meth c S hname
  have L5 : ∀ (x1 : Int32) (x3 : Int32) (kk : Nat) (x2 : Int32) (w0 : (Nat → Int32)), wp_J7_fill_53178_L5 N0 x1 x3 Q kk x2 w0 → V p l e { frames := 0, cells := 0, slots := 0, locals := 0 } s m args below meth c G (va_A ([(a0, .inl (G.2.1, N0, .inl v0))]) s.heap.size) 4 0 0 (MQ below (EQ G ([(a0, .inl (G.2.1, N0, .inl v0))]) s.heap.size (PV (fun u : (Nat → Int32) => [(a0, .inl (G.2.1, N0, .inl u))]) Q)) args s 0 0 (va_A ([(a0, .inl (G.2.1, N0, .inl v0))]) s.heap.size)) ([(a0, .inl (G.2.1, N0, .inl w0))]) 5 [(0, .ref a0), (1, .int x1), (2, .int x2), (3, .int x3)] [] := by
    intro x1 x3 kk
    induction kk with
    | zero => intro x2 w0 hw; exact hw.elim
    | succ n ih =>
      intro x2 w0 hw
      refine v_iload_n (pc2 := 6) S 2 dJ7_fill_53178_5 rfl rfl rfl ?_
      refine v_iload_n (pc2 := 7) S 3 dJ7_fill_53178_6 rfl rfl rfl ?_
      refine v_icmp_ge (pc2 := 10) (tgt := 20) S dJ7_fill_53178_7 (by decide) rfl (fun c2 => ?_) (fun c2 => ?_)
      · have hw := hw.1 c2
        exact v_vret S ⟨w0, rfl, rfl, hw⟩ dJ7_fill_53178_20
      · have hw := hw.2 c2
        refine v_aload_n (pc2 := 11) S 0 dJ7_fill_53178_10 rfl rfl rfl ?_
        refine v_iload_n (pc2 := 12) S 2 dJ7_fill_53178_11 rfl rfl rfl ?_
        refine v_iload_n (pc2 := 13) S 1 dJ7_fill_53178_12 rfl rfl rfl ?_
        obtain ⟨h3, hw⟩ := hw
        obtain ⟨g4, eg4⟩ : ∃ y : Nat → Int32, y = upd w0 x2.toNatClampNeg x1 := ⟨_, rfl⟩
        have hw := hw g4 eg4
        refine v_iast (ws2 := [(a0, .inl (G.2.1, N0, .inl g4))]) (pc2 := 14) S 0 rfl h3 (by rw [eg4] <;> rfl) dJ7_fill_53178_13 rfl ?_
        obtain ⟨z5, ez5⟩ : ∃ y : Int32, y = x2 + (1 : Int32) := ⟨_, rfl⟩
        have hw := hw z5 ez5
        refine v_iinc (v := z5) (lv2 := [(0, .ref a0), (1, .int x1), (2, .int z5), (3, .int x3)]) (pc2 := 17) S 2 dJ7_fill_53178_14 rfl (by rw [ez5]; rfl) (by decide) [1, 2, 0, 3] rfl rfl ?_
        refine v_goto (tgt := 5) S dJ7_fill_53178_17 (by decide) ?_
        exact ih z5 g4 hw
  refine v_iconst (v := 0) (pc2 := 1) S dJ7_fill_53178_0 (by decide) rfl ?_
  refine v_istore_n (lv2 := [(0, .ref a0), (1, .int i0), (2, .int (0 : Int32))]) (pc2 := 2) S dJ7_fill_53178_1 rfl (by decide) [1, 2, 0] rfl rfl ?_
  refine v_aload_n (pc2 := 3) S 0 dJ7_fill_53178_2 rfl rfl rfl ?_
  refine v_alen (pc2 := 4) S 0 rfl rfl dJ7_fill_53178_3 rfl ?_
  refine v_nm (fun z1 ez1 => ?_)
  have hw := hw z1 ez1
  refine v_istore_n (lv2 := [(0, .ref a0), (1, .int i0), (2, .int (0 : Int32)), (3, .int z1)]) (pc2 := 5) S dJ7_fill_53178_4 rfl (by decide) [1, 2, 3, 0] rfl rfl ?_
  obtain ⟨kk, hw⟩ := hw
  exact L5 i0 z1 kk (0 : Int32) v0 hw
set_option maxHeartbeats 4000000 in
set_option maxRecDepth 100000 in
theorem c_X8_spot (l : Launch) (G : GG) (i0 : Int32) (i1 : Int32) (Q : Int32 → Prop) (hw : wp_X8_spot i0 i1 Q) : Con l G yX8_spot cX8_spot 2 (some .int) { frames := 0, cells := 0, slots := 0, locals := 0 } [.int i0, .int i1] ([]) (PI (fun _ : Unit => []) (fun r _ => Q r)) 0 0 := by
  refine con_of RX8 rfl (by decide) [(0, .int i0), (1, .int i1)] rfl (Nat.le_of_ble_eq_true rfl) ?_
  intro p e s m args below meth c S hname
  refine v_iload_n (pc2 := 1) S 0 dX8_spot_0 rfl rfl rfl ?_
  refine v_bipush (v := 6) (pc2 := 3) S dX8_spot_1 (by decide) rfl ?_
  refine v_imul (pc2 := 4) S dX8_spot_3 rfl ?_
  refine v_iload_n (pc2 := 5) S 1 dX8_spot_4 rfl rfl rfl ?_
  refine v_iadd (pc2 := 6) S dX8_spot_5 rfl ?_
  exact v_iret S ⟨(i0 * (6 : Int32)) + i1, (), rfl, rfl, hw⟩ dX8_spot_6
set_option maxHeartbeats 4000000 in
set_option maxRecDepth 100000 in
theorem c_X8_isHall (l : Launch) (G : GG) (i0 : Int32) (Q : Int32 → Prop) (hw : wp_X8_isHall i0 Q) : Con l G yX8_isHall cX8_isHall 1 (some .boolean) { frames := 0, cells := 0, slots := 0, locals := 0 } [.int i0] ([]) (PB (fun _ : Unit => []) (fun r _ => Q r)) 0 0 := by
  refine con_of RX8 rfl (by decide) [(0, .int i0)] rfl (Nat.le_of_ble_eq_true rfl) ?_
  intro p e s m args below meth c S hname
  refine v_iload_n (pc2 := 1) S 0 dX8_isHall_0 rfl rfl rfl ?_
  refine v_if_lt (pc2 := 4) (tgt := 14) S dX8_isHall_1 (by decide) rfl (fun c1 => ?_) (fun c1 => ?_)
  · have hw := hw.1 c1
    refine v_iconst (v := 0) (pc2 := 15) S dX8_isHall_14 (by decide) rfl ?_
    exact v_zret S (by decide) ⟨(0 : Int32), (), rfl, (by decide), rfl, hw⟩ dX8_isHall_15
  · have hw := hw.2 c1
    refine v_iload_n (pc2 := 5) S 0 dX8_isHall_4 rfl rfl rfl ?_
    refine v_bipush (v := 6) (pc2 := 7) S dX8_isHall_5 (by decide) rfl ?_
    refine v_icmp_ge (pc2 := 10) (tgt := 14) S dX8_isHall_7 (by decide) rfl (fun c2 => ?_) (fun c2 => ?_)
    · have hw := hw.1 c2
      refine v_iconst (v := 0) (pc2 := 15) S dX8_isHall_14 (by decide) rfl ?_
      exact v_zret S (by decide) ⟨(0 : Int32), (), rfl, (by decide), rfl, hw⟩ dX8_isHall_15
    · have hw := hw.2 c2
      refine v_iconst (v := 1) (pc2 := 11) S dX8_isHall_10 (by decide) rfl ?_
      refine v_goto (tgt := 15) S dX8_isHall_11 (by decide) ?_
      exact v_zret S (by decide) ⟨(1 : Int32), (), rfl, (by decide), rfl, hw⟩ dX8_isHall_15
set_option maxHeartbeats 4000000 in
set_option maxRecDepth 100000 in
theorem c_X8_isSetOfDoors (l : Launch) (G : GG) (i0 : Int32) (Q : Int32 → Prop) (hw : wp_X8_isSetOfDoors i0 Q) : Con l G yX8_isSetOfDoors cX8_isSetOfDoors 1 (some .boolean) { frames := 0, cells := 0, slots := 0, locals := 0 } [.int i0] ([]) (PB (fun _ : Unit => []) (fun r _ => Q r)) 0 0 := by
  refine con_of RX8 rfl (by decide) [(0, .int i0)] rfl (Nat.le_of_ble_eq_true rfl) ?_
  intro p e s m args below meth c S hname
  refine v_iload_n (pc2 := 1) S 0 dX8_isSetOfDoors_0 rfl rfl rfl ?_
  refine v_if_lt (pc2 := 4) (tgt := 15) S dX8_isSetOfDoors_1 (by decide) rfl (fun c1 => ?_) (fun c1 => ?_)
  · have hw := hw.1 c1
    refine v_iconst (v := 0) (pc2 := 16) S dX8_isSetOfDoors_15 (by decide) rfl ?_
    exact v_zret S (by decide) ⟨(0 : Int32), (), rfl, (by decide), rfl, hw⟩ dX8_isSetOfDoors_16
  · have hw := hw.2 c1
    refine v_iload_n (pc2 := 5) S 0 dX8_isSetOfDoors_4 rfl rfl rfl ?_
    refine v_sipush (v := 1023) (pc2 := 8) S dX8_isSetOfDoors_5 (by decide) rfl ?_
    refine v_icmp_gt (pc2 := 11) (tgt := 15) S dX8_isSetOfDoors_8 (by decide) rfl (fun c2 => ?_) (fun c2 => ?_)
    · have hw := hw.1 c2
      refine v_iconst (v := 0) (pc2 := 16) S dX8_isSetOfDoors_15 (by decide) rfl ?_
      exact v_zret S (by decide) ⟨(0 : Int32), (), rfl, (by decide), rfl, hw⟩ dX8_isSetOfDoors_16
    · have hw := hw.2 c2
      refine v_iconst (v := 1) (pc2 := 12) S dX8_isSetOfDoors_11 (by decide) rfl ?_
      refine v_goto (tgt := 16) S dX8_isSetOfDoors_12 (by decide) ?_
      exact v_zret S (by decide) ⟨(1 : Int32), (), rfl, (by decide), rfl, hw⟩ dX8_isSetOfDoors_16
set_option maxHeartbeats 4000000 in
set_option maxRecDepth 100000 in
theorem c_X8_doorOrNotFound (l : Launch) (G : GG) (i0 : Int32) (Q : Int32 → Prop) (hw : wp_X8_doorOrNotFound i0 Q) : Con l G yX8_doorOrNotFound cX8_doorOrNotFound 1 (some .int) { frames := 0, cells := 0, slots := 0, locals := 0 } [.int i0] ([]) (PI (fun _ : Unit => []) (fun r _ => Q r)) 0 0 := by
  refine con_of RX8 rfl (by decide) [(0, .int i0)] rfl (Nat.le_of_ble_eq_true rfl) ?_
  intro p e s m args below meth c S hname
  refine v_iload_n (pc2 := 1) S 0 dX8_doorOrNotFound_0 rfl rfl rfl ?_
  refine v_bipush (v := 10) (pc2 := 3) S dX8_doorOrNotFound_1 (by decide) rfl ?_
  refine v_icmp_ne (pc2 := 6) (tgt := 11) S dX8_doorOrNotFound_3 (by decide) rfl (fun c1 => ?_) (fun c1 => ?_)
  · have hw := hw.1 c1
    refine v_iload_n (pc2 := 12) S 0 dX8_doorOrNotFound_11 rfl rfl rfl ?_
    exact v_iret S ⟨i0, (), rfl, rfl, hw⟩ dX8_doorOrNotFound_12
  · have hw := hw.2 c1
    refine v_bipush (v := -4) (pc2 := 8) S dX8_doorOrNotFound_6 (by decide) rfl ?_
    refine v_goto (tgt := 12) S dX8_doorOrNotFound_8 (by decide) ?_
    exact v_iret S ⟨(-4 : Int32), (), rfl, rfl, hw⟩ dX8_doorOrNotFound_12
end
