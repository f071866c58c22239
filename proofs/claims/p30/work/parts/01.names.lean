-- ===== PART A: goes FIRST, ahead of the names: the tables' words, and 'selects' of the private methods out of them =====
/-- a private method of a class that the tables say can be made, by its rows of tables_1 -/
def lw_okq (q : MethodName × Nat) : Prop := (q.1.cls ≠ "java/lang/invoke/MethodHandle" ∧ q.1.cls ≠ "java/lang/invoke/VarHandle") ∧ Cond.instantiable q.1.cls q.2 ∈ tables_1 ∧ Cond.privateMethod q.1 ∈ tables_1 ∧ Cond.instanceMethod q.1 ∈ tables_1
theorem lw_p0 : lw_okq (⟨"CordDoors$State", "reasonNotToOpenAsGuest", "(II)I"⟩, 4) := ⟨⟨by decide +kernel, by decide +kernel⟩, List.mem_of_getElem? (i := 23) (by decide +kernel), List.mem_of_getElem? (i := 245) (by decide +kernel), List.mem_of_getElem? (i := 246) (by decide +kernel)⟩
theorem lw_p1 : lw_okq (⟨"CordDoors$State", "isAtDoor", "(II)Z"⟩, 4) := ⟨⟨by decide +kernel, by decide +kernel⟩, List.mem_of_getElem? (i := 23) (by decide +kernel), List.mem_of_getElem? (i := 249) (by decide +kernel), List.mem_of_getElem? (i := 250) (by decide +kernel)⟩
theorem lw_p2 : lw_okq (⟨"CordDoors$Loom", "hasTooMany", "(II)Z"⟩, 6) := ⟨⟨by decide +kernel, by decide +kernel⟩, List.mem_of_getElem? (i := 29) (by decide +kernel), List.mem_of_getElem? (i := 289) (by decide +kernel), List.mem_of_getElem? (i := 290) (by decide +kernel)⟩
theorem lw_p3 : lw_okq (⟨"CordDoors$Ways", "reach", "(II)V"⟩, 3) := ⟨⟨by decide +kernel, by decide +kernel⟩, List.mem_of_getElem? (i := 196) (by decide +kernel), List.mem_of_getElem? (i := 316) (by decide +kernel), List.mem_of_getElem? (i := 317) (by decide +kernel)⟩
theorem lw_p4 : lw_okq (⟨"CordDoors$Ways", "fewestOf", "(I)I"⟩, 3) := ⟨⟨by decide +kernel, by decide +kernel⟩, List.mem_of_getElem? (i := 196) (by decide +kernel), List.mem_of_getElem? (i := 323) (by decide +kernel), List.mem_of_getElem? (i := 324) (by decide +kernel)⟩
theorem lw_p5 : lw_okq (⟨"CordDoors$Ways", "goOnFrom", "(LCordDoors$Loom;III)V"⟩, 3) := ⟨⟨by decide +kernel, by decide +kernel⟩, List.mem_of_getElem? (i := 196) (by decide +kernel), List.mem_of_getElem? (i := 327) (by decide +kernel), List.mem_of_getElem? (i := 328) (by decide +kernel)⟩
theorem lw_p6 : lw_okq (⟨"CordDoors$Ways", "lineUpSets", "(LCordDoors$Loom;I)V"⟩, 3) := ⟨⟨by decide +kernel, by decide +kernel⟩, List.mem_of_getElem? (i := 196) (by decide +kernel), List.mem_of_getElem? (i := 356) (by decide +kernel), List.mem_of_getElem? (i := 357) (by decide +kernel)⟩
theorem lw_p7 : lw_okq (⟨"CordDoors$Ways", "begin", "(I)V"⟩, 3) := ⟨⟨by decide +kernel, by decide +kernel⟩, List.mem_of_getElem? (i := 196) (by decide +kernel), List.mem_of_getElem? (i := 360) (by decide +kernel), List.mem_of_getElem? (i := 361) (by decide +kernel)⟩
theorem lw_p8 : lw_okq (⟨"CordDoors$Ways", "lessenAll", "(LCordDoors$Loom;II)I"⟩, 3) := ⟨⟨by decide +kernel, by decide +kernel⟩, List.mem_of_getElem? (i := 196) (by decide +kernel), List.mem_of_getElem? (i := 364) (by decide +kernel), List.mem_of_getElem? (i := 365) (by decide +kernel)⟩
theorem lw_p9 : lw_okq (⟨"CordDoors$Ways", "lessen", "(II)I"⟩, 3) := ⟨⟨by decide +kernel, by decide +kernel⟩, List.mem_of_getElem? (i := 196) (by decide +kernel), List.mem_of_getElem? (i := 376) (by decide +kernel), List.mem_of_getElem? (i := 377) (by decide +kernel)⟩
theorem lw_p10 : lw_okq (⟨"CordDoors$History", "slotBehind", "(I)LCordDoors$State;"⟩, 3) := ⟨⟨by decide +kernel, by decide +kernel⟩, List.mem_of_getElem? (i := 143) (by decide +kernel), List.mem_of_getElem? (i := 414) (by decide +kernel), List.mem_of_getElem? (i := 415) (by decide +kernel)⟩
theorem lw_p11 : lw_okq (⟨"CordDoors$State", "opensUnless", "(II)I"⟩, 4) := ⟨⟨by decide +kernel, by decide +kernel⟩, List.mem_of_getElem? (i := 23) (by decide +kernel), List.mem_of_getElem? (i := 533) (by decide +kernel), List.mem_of_getElem? (i := 534) (by decide +kernel)⟩
theorem lw_p12 : lw_okq (⟨"CordDoors$State", "reasonNotToShut", "(I)I"⟩, 4) := ⟨⟨by decide +kernel, by decide +kernel⟩, List.mem_of_getElem? (i := 23) (by decide +kernel), List.mem_of_getElem? (i := 562) (by decide +kernel), List.mem_of_getElem? (i := 563) (by decide +kernel)⟩
theorem lw_p13 : lw_okq (⟨"CordDoors$State", "shutsUnless", "(II)I"⟩, 4) := ⟨⟨by decide +kernel, by decide +kernel⟩, List.mem_of_getElem? (i := 23) (by decide +kernel), List.mem_of_getElem? (i := 566) (by decide +kernel), List.mem_of_getElem? (i := 567) (by decide +kernel)⟩
theorem lw_p14 : lw_okq (⟨"CordDoors$State", "reasonNotToUse", "(II)I"⟩, 4) := ⟨⟨by decide +kernel, by decide +kernel⟩, List.mem_of_getElem? (i := 23) (by decide +kernel), List.mem_of_getElem? (i := 616) (by decide +kernel), List.mem_of_getElem? (i := 617) (by decide +kernel)⟩
theorem lw_p15 : lw_okq (⟨"CordDoors", "mostOfAllSets", "()I"⟩, 7) := ⟨⟨by decide +kernel, by decide +kernel⟩, List.mem_of_getElem? (i := 15) (by decide +kernel), List.mem_of_getElem? (i := 633) (by decide +kernel), List.mem_of_getElem? (i := 634) (by decide +kernel)⟩
def lw_privs_1 : List (MethodName × Nat) := [(⟨"CordDoors$State", "reasonNotToOpenAsGuest", "(II)I"⟩, 4), (⟨"CordDoors$State", "isAtDoor", "(II)Z"⟩, 4), (⟨"CordDoors$Loom", "hasTooMany", "(II)Z"⟩, 6), (⟨"CordDoors$Ways", "reach", "(II)V"⟩, 3), (⟨"CordDoors$Ways", "fewestOf", "(I)I"⟩, 3), (⟨"CordDoors$Ways", "goOnFrom", "(LCordDoors$Loom;III)V"⟩, 3), (⟨"CordDoors$Ways", "lineUpSets", "(LCordDoors$Loom;I)V"⟩, 3), (⟨"CordDoors$Ways", "begin", "(I)V"⟩, 3), (⟨"CordDoors$Ways", "lessenAll", "(LCordDoors$Loom;II)I"⟩, 3), (⟨"CordDoors$Ways", "lessen", "(II)I"⟩, 3), (⟨"CordDoors$History", "slotBehind", "(I)LCordDoors$State;"⟩, 3), (⟨"CordDoors$State", "opensUnless", "(II)I"⟩, 4), (⟨"CordDoors$State", "reasonNotToShut", "(I)I"⟩, 4), (⟨"CordDoors$State", "shutsUnless", "(II)I"⟩, 4), (⟨"CordDoors$State", "reasonNotToUse", "(II)I"⟩, 4), (⟨"CordDoors", "mostOfAllSets", "()I"⟩, 7)]
theorem lw_r1 : ∀ q ∈ lw_privs_1, lw_okq q := List.forall_mem_cons.mpr ⟨lw_p0, List.forall_mem_cons.mpr ⟨lw_p1, List.forall_mem_cons.mpr ⟨lw_p2, List.forall_mem_cons.mpr ⟨lw_p3, List.forall_mem_cons.mpr ⟨lw_p4, List.forall_mem_cons.mpr ⟨lw_p5, List.forall_mem_cons.mpr ⟨lw_p6, List.forall_mem_cons.mpr ⟨lw_p7, List.forall_mem_cons.mpr ⟨lw_p8, List.forall_mem_cons.mpr ⟨lw_p9, List.forall_mem_cons.mpr ⟨lw_p10, List.forall_mem_cons.mpr ⟨lw_p11, List.forall_mem_cons.mpr ⟨lw_p12, List.forall_mem_cons.mpr ⟨lw_p13, List.forall_mem_cons.mpr ⟨lw_p14, List.forall_mem_cons.mpr ⟨lw_p15, fun _ h => absurd h List.not_mem_nil⟩⟩⟩⟩⟩⟩⟩⟩⟩⟩⟩⟩⟩⟩⟩⟩
theorem lw_p16 : lw_okq (⟨"CordDoors$Pad", "codeAt", "(I)I"⟩, 2) := ⟨⟨by decide +kernel, by decide +kernel⟩, List.mem_of_getElem? (i := 163) (by decide +kernel), List.mem_of_getElem? (i := 679) (by decide +kernel), List.mem_of_getElem? (i := 680) (by decide +kernel)⟩
theorem lw_p17 : lw_okq (⟨"CordDoors", "runDeedAt", "(I)I"⟩, 7) := ⟨⟨by decide +kernel, by decide +kernel⟩, List.mem_of_getElem? (i := 15) (by decide +kernel), List.mem_of_getElem? (i := 692) (by decide +kernel), List.mem_of_getElem? (i := 693) (by decide +kernel)⟩
theorem lw_p18 : lw_okq (⟨"CordDoors$Pad", "placeOfLetter", "(I)I"⟩, 2) := ⟨⟨by decide +kernel, by decide +kernel⟩, List.mem_of_getElem? (i := 163) (by decide +kernel), List.mem_of_getElem? (i := 700) (by decide +kernel), List.mem_of_getElem? (i := 701) (by decide +kernel)⟩
def lw_privs_2 : List (MethodName × Nat) := [(⟨"CordDoors$Pad", "codeAt", "(I)I"⟩, 2), (⟨"CordDoors", "runDeedAt", "(I)I"⟩, 7), (⟨"CordDoors$Pad", "placeOfLetter", "(I)I"⟩, 2)]
theorem lw_r2 : ∀ q ∈ lw_privs_2, lw_okq q := List.forall_mem_cons.mpr ⟨lw_p16, List.forall_mem_cons.mpr ⟨lw_p17, List.forall_mem_cons.mpr ⟨lw_p18, fun _ h => absurd h List.not_mem_nil⟩⟩⟩
def lw_privs : List (MethodName × Nat) := lw_privs_1 ++ (lw_privs_2)
def lw_tbl : List Cond := k2_sels lw_privs ++ tables_1
theorem lw_privs_ok : ∀ q ∈ lw_privs, lw_okq q := by
  show ∀ q ∈ lw_privs_1 ++ (lw_privs_2), lw_okq q
  exact List.forall_mem_append.mpr ⟨lw_r1, lw_r2⟩
/-- the streams that the claim lets the run draw from -/
abbrev lw_cs : List Choice := [Jvm.Choice.named "NaN.bits"]
theorem lw_bits : nanBits ∈ lw_cs := by first | decide | exact List.mem_cons_self | simp [lw_cs, nanBits]
/-! ===== BEGIN printed: names, fields, word lists, decode rows ===== -/
def RX0 : String := "CordDoors$Accounts"
def TX0 : u_T := fun k => match k with
  | 0 => ("CordDoors$Accounts", "openings", "[I", true)
  | 1 => ("CordDoors$Accounts", "shuttings", "[I", true)
  | 2 => ("CordDoors$Accounts", "opened", "I", false)
  | 3 => ("CordDoors$Accounts", "shutByHand", "I", false)
  | 4 => ("CordDoors$Accounts", "shutByCords", "I", false)
  | 5 => ("CordDoors$Accounts", "shutByDrafts", "I", false)
  | _ => ("CordDoors$Accounts", "refused", "I", false)
def tyX0 : Nat → FieldType := fun k => match k with
  | 0 => .array .int
  | 1 => .array .int
  | 2 => .int
  | 3 => .int
  | 4 => .int
  | 5 => .int
  | _ => .int
abbrev wsX00 : List Cond := u_ws RX0 TX0 7
theorem nmX0 : ∀ a, a < 7 → ∀ b, b < 7 → a ≠ b → (TX0 a).2.1 ≠ (TX0 b).2.1 := by decide +kernel
theorem tyX0_ok : ∀ k, k < 7 → parseFieldDescriptor (TX0 k).2.2.1 = some (tyX0 k) := by decide +kernel
abbrev cX0_init : ByteArray := prog_2_method_1_code
def yX0_init : MethodName := ⟨RX0, "<init>", "()V"⟩
abbrev cX0_copy : ByteArray := prog_2_method_2_code
def yX0_copy : MethodName := ⟨RX0, "copy", "(LCordDoors$Accounts;)V"⟩
abbrev cX0_noteOpened : ByteArray := prog_2_method_3_code
def yX0_noteOpened : MethodName := ⟨RX0, "noteOpened", "(I)V"⟩
abbrev cX0_noteShutByHand : ByteArray := prog_2_method_4_code
def yX0_noteShutByHand : MethodName := ⟨RX0, "noteShutByHand", "(I)V"⟩
abbrev cX0_noteShutByOpening : ByteArray := prog_2_method_5_code
def yX0_noteShutByOpening : MethodName := ⟨RX0, "noteShutByOpening", "(II)V"⟩
abbrev cX0_noteRefused : ByteArray := prog_2_method_6_code
def yX0_noteRefused : MethodName := ⟨RX0, "noteRefused", "(I)I"⟩
def RX1 : String := "CordDoors$Guests"
def TX1 : u_T := fun k => match k with
  | 0 => ("CordDoors$Guests", "halls", "[I", true)
  | 1 => ("CordDoors$Guests", "keySets", "[I", true)
  | _ => ("CordDoors$Guests", "walks", "[I", true)
def tyX1 : Nat → FieldType := fun k => match k with
  | 0 => .array .int
  | 1 => .array .int
  | _ => .array .int
abbrev wsX10 : List Cond := u_ws RX1 TX1 3
theorem nmX1 : ∀ a, a < 3 → ∀ b, b < 3 → a ≠ b → (TX1 a).2.1 ≠ (TX1 b).2.1 := by decide +kernel
theorem tyX1_ok : ∀ k, k < 3 → parseFieldDescriptor (TX1 k).2.2.1 = some (tyX1 k) := by decide +kernel
abbrev cX1_init : ByteArray := prog_3_method_1_code
def yX1_init : MethodName := ⟨RX1, "<init>", "()V"⟩
abbrev cX1_copy : ByteArray := prog_3_method_2_code
def yX1_copy : MethodName := ⟨RX1, "copy", "(LCordDoors$Guests;)V"⟩
abbrev cX1_howManyIn : ByteArray := prog_3_method_3_code
def yX1_howManyIn : MethodName := ⟨RX1, "howManyIn", "(I)I"⟩
def RX2 : String := "CordDoors$History"
def TX2 : u_T := fun k => match k with
  | 0 => ("CordDoors$History", "states", "[LCordDoors$State;", true)
  | 1 => ("CordDoors$History", "oldest", "I", false)
  | _ => ("CordDoors$History", "size", "I", false)
def tyX2 : Nat → FieldType := fun k => match k with
  | 0 => .array (.object "CordDoors$State")
  | 1 => .int
  | _ => .int
abbrev wsX20 : List Cond := u_ws RX2 TX2 3
theorem nmX2 : ∀ a, a < 3 → ∀ b, b < 3 → a ≠ b → (TX2 a).2.1 ≠ (TX2 b).2.1 := by decide +kernel
theorem tyX2_ok : ∀ k, k < 3 → parseFieldDescriptor (TX2 k).2.2.1 = some (tyX2 k) := by decide +kernel
abbrev cX2_init : ByteArray := prog_4_method_1_code
def yX2_init : MethodName := ⟨RX2, "<init>", "()V"⟩
abbrev cX2_record : ByteArray := prog_4_method_2_code
def yX2_record : MethodName := ⟨RX2, "record", "(LCordDoors$State;)V"⟩
abbrev cX2_takeBack : ByteArray := prog_4_method_3_code
def yX2_takeBack : MethodName := ⟨RX2, "takeBack", "(LCordDoors$State;)V"⟩
abbrev cX2_slotBehind : ByteArray := prog_4_method_4_code
def yX2_slotBehind : MethodName := ⟨RX2, "slotBehind", "(I)LCordDoors$State;"⟩
def RX3 : String := "CordDoors$Loom"
def TX3 : u_T := fun k => match k with
  | 0 => ("CordDoors$Loom", "firstCords", "[I", true)
  | 1 => ("CordDoors$Loom", "secondCords", "[I", true)
  | 2 => ("CordDoors$Loom", "lesserHalls", "[I", true)
  | 3 => ("CordDoors$Loom", "greaterHalls", "[I", true)
  | 4 => ("CordDoors$Loom", "doorsOfHalls", "[I", true)
  | _ => ("CordDoors$Loom", "draftSetting", "I", false)
def tyX3 : Nat → FieldType := fun k => match k with
  | 0 => .array .int
  | 1 => .array .int
  | 2 => .array .int
  | 3 => .array .int
  | 4 => .array .int
  | _ => .int
abbrev wsX30 : List Cond := u_ws RX3 TX3 6
theorem nmX3 : ∀ a, a < 6 → ∀ b, b < 6 → a ≠ b → (TX3 a).2.1 ≠ (TX3 b).2.1 := by decide +kernel
theorem tyX3_ok : ∀ k, k < 6 → parseFieldDescriptor (TX3 k).2.2.1 = some (tyX3 k) := by decide +kernel
abbrev cX3_init : ByteArray := prog_5_method_1_code
def yX3_init : MethodName := ⟨RX3, "<init>", "()V"⟩
abbrev cX3_copy : ByteArray := prog_5_method_2_code
def yX3_copy : MethodName := ⟨RX3, "copy", "(LCordDoors$Loom;)V"⟩
abbrev cX3_hang : ByteArray := prog_5_method_3_code
def yX3_hang : MethodName := ⟨RX3, "hang", "(III)V"⟩
abbrev cX3_lesserHall : ByteArray := prog_5_method_4_code
def yX3_lesserHall : MethodName := ⟨RX3, "lesserHall", "(I)I"⟩
abbrev cX3_greaterHall : ByteArray := prog_5_method_5_code
def yX3_greaterHall : MethodName := ⟨RX3, "greaterHall", "(I)I"⟩
abbrev cX3_joins : ByteArray := prog_5_method_6_code
def yX3_joins : MethodName := ⟨RX3, "joins", "(II)Z"⟩
abbrev cX3_otherHall : ByteArray := prog_5_method_7_code
def yX3_otherHall : MethodName := ⟨RX3, "otherHall", "(II)I"⟩
abbrev cX3_doorsOf : ByteArray := prog_5_method_8_code
def yX3_doorsOf : MethodName := ⟨RX3, "doorsOf", "(I)I"⟩
abbrev cX3_cordOf : ByteArray := prog_5_method_9_code
def yX3_cordOf : MethodName := ⟨RX3, "cordOf", "(IZ)I"⟩
abbrev cX3_layCord : ByteArray := prog_5_method_10_code
def yX3_layCord : MethodName := ⟨RX3, "layCord", "(IZI)V"⟩
abbrev cX3_targetsOf : ByteArray := prog_5_method_11_code
def yX3_targetsOf : MethodName := ⟨RX3, "targetsOf", "(I)I"⟩
abbrev cX3_heldBy : ByteArray := prog_5_method_12_code
def yX3_heldBy : MethodName := ⟨RX3, "heldBy", "(I)I"⟩
abbrev cX3_cordsOf : ByteArray := prog_5_method_13_code
def yX3_cordsOf : MethodName := ⟨RX3, "cordsOf", "(I)I"⟩
abbrev cX3_cordsTo : ByteArray := prog_5_method_14_code
def yX3_cordsTo : MethodName := ⟨RX3, "cordsTo", "(II)I"⟩
abbrev cX3_pairsOfDoors : ByteArray := prog_5_method_15_code
def yX3_pairsOfDoors : MethodName := ⟨RX3, "pairsOfDoors", "()I"⟩
abbrev cX3_canBeOpen : ByteArray := prog_5_method_16_code
def yX3_canBeOpen : MethodName := ⟨RX3, "canBeOpen", "(I)Z"⟩
abbrev cX3_hasTooMany : ByteArray := prog_5_method_17_code
def yX3_hasTooMany : MethodName := ⟨RX3, "hasTooMany", "(II)Z"⟩
abbrev cX3_afterOpening : ByteArray := prog_5_method_18_code
def yX3_afterOpening : MethodName := ⟨RX3, "afterOpening", "(II)I"⟩
abbrev cX3_afterCords : ByteArray := prog_5_method_19_code
def yX3_afterCords : MethodName := ⟨RX3, "afterCords", "(II)I"⟩
abbrev cX3_afterDrafts : ByteArray := prog_5_method_20_code
def yX3_afterDrafts : MethodName := ⟨RX3, "afterDrafts", "(II)I"⟩
abbrev cX3_hallsFrom : ByteArray := prog_5_method_21_code
def yX3_hallsFrom : MethodName := ⟨RX3, "hallsFrom", "(II)I"⟩
abbrev cX3_pairsOfHalls : ByteArray := prog_5_method_22_code
def yX3_pairsOfHalls : MethodName := ⟨RX3, "pairsOfHalls", "(I)I"⟩
def RX4 : String := "CordDoors$Pad"
def TX4 : u_T := fun k => match k with
  | 0 => ("CordDoors$Pad", "codes", "[I", true)
  | _ => ("CordDoors$Pad", "length", "I", false)
def tyX4 : Nat → FieldType := fun k => match k with
  | 0 => .array .int
  | _ => .int
abbrev wsX40 : List Cond := u_ws RX4 TX4 2
theorem nmX4 : ∀ a, a < 2 → ∀ b, b < 2 → a ≠ b → (TX4 a).2.1 ≠ (TX4 b).2.1 := by decide +kernel
theorem tyX4_ok : ∀ k, k < 2 → parseFieldDescriptor (TX4 k).2.2.1 = some (tyX4 k) := by decide +kernel
abbrev cX4_init : ByteArray := prog_6_method_1_code
def yX4_init : MethodName := ⟨RX4, "<init>", "()V"⟩
abbrev cX4_add : ByteArray := prog_6_method_2_code
def yX4_add : MethodName := ⟨RX4, "add", "(I)I"⟩
abbrev cX4_empty : ByteArray := prog_6_method_3_code
def yX4_empty : MethodName := ⟨RX4, "empty", "()I"⟩
abbrev cX4_faultPlace : ByteArray := prog_6_method_4_code
def yX4_faultPlace : MethodName := ⟨RX4, "faultPlace", "()I"⟩
abbrev cX4_expectedAfter : ByteArray := prog_6_method_5_code
def yX4_expectedAfter : MethodName := ⟨RX4, "expectedAfter", "(II)I"⟩
abbrev cX4_codeAt : ByteArray := prog_6_method_6_code
def yX4_codeAt : MethodName := ⟨RX4, "codeAt", "(I)I"⟩
abbrev cX4_isGuestsDeed : ByteArray := prog_6_method_7_code
def yX4_isGuestsDeed : MethodName := ⟨RX4, "isGuestsDeed", "(I)Z"⟩
abbrev cX4_guestOfDeed : ByteArray := prog_6_method_8_code
def yX4_guestOfDeed : MethodName := ⟨RX4, "guestOfDeed", "(I)I"⟩
abbrev cX4_letterOfDeed : ByteArray := prog_6_method_9_code
def yX4_letterOfDeed : MethodName := ⟨RX4, "letterOfDeed", "(I)I"⟩
abbrev cX4_doorOfDeed : ByteArray := prog_6_method_10_code
def yX4_doorOfDeed : MethodName := ⟨RX4, "doorOfDeed", "(I)I"⟩
abbrev cX4_placeOfNextDeed : ByteArray := prog_6_method_11_code
def yX4_placeOfNextDeed : MethodName := ⟨RX4, "placeOfNextDeed", "(I)I"⟩
abbrev cX4_placeOfLetter : ByteArray := prog_6_method_12_code
def yX4_placeOfLetter : MethodName := ⟨RX4, "placeOfLetter", "(I)I"⟩
def RX5 : String := "CordDoors$State"
def TX5 : u_T := fun k => match k with
  | 0 => ("CordDoors$State", "loom", "LCordDoors$Loom;", true)
  | 1 => ("CordDoors$State", "guests", "LCordDoors$Guests;", true)
  | 2 => ("CordDoors$State", "accounts", "LCordDoors$Accounts;", true)
  | _ => ("CordDoors$State", "openDoors", "I", false)
def tyX5 : Nat → FieldType := fun k => match k with
  | 0 => .object "CordDoors$Loom"
  | 1 => .object "CordDoors$Guests"
  | 2 => .object "CordDoors$Accounts"
  | _ => .int
abbrev wsX50 : List Cond := u_ws RX5 TX5 4
theorem nmX5 : ∀ a, a < 4 → ∀ b, b < 4 → a ≠ b → (TX5 a).2.1 ≠ (TX5 b).2.1 := by decide +kernel
theorem tyX5_ok : ∀ k, k < 4 → parseFieldDescriptor (TX5 k).2.2.1 = some (tyX5 k) := by decide +kernel
abbrev cX5_init : ByteArray := prog_7_method_1_code
def yX5_init : MethodName := ⟨RX5, "<init>", "()V"⟩
abbrev cX5_copy : ByteArray := prog_7_method_2_code
def yX5_copy : MethodName := ⟨RX5, "copy", "(LCordDoors$State;)V"⟩
abbrev cX5_isOpen : ByteArray := prog_7_method_3_code
def yX5_isOpen : MethodName := ⟨RX5, "isOpen", "(I)Z"⟩
abbrev cX5_shutDoors : ByteArray := prog_7_method_4_code
def yX5_shutDoors : MethodName := ⟨RX5, "shutDoors", "()I"⟩
abbrev cX5_reasonNotToOpen : ByteArray := prog_7_method_5_code
def yX5_reasonNotToOpen : MethodName := ⟨RX5, "reasonNotToOpen", "(I)I"⟩
abbrev cX5_reasonNotToShut : ByteArray := prog_7_method_6_code
def yX5_reasonNotToShut : MethodName := ⟨RX5, "reasonNotToShut", "(I)I"⟩
abbrev cX5_isAtDoor : ByteArray := prog_7_method_7_code
def yX5_isAtDoor : MethodName := ⟨RX5, "isAtDoor", "(II)Z"⟩
abbrev cX5_reasonNotToOpenAsGuest : ByteArray := prog_7_method_8_code
def yX5_reasonNotToOpenAsGuest : MethodName := ⟨RX5, "reasonNotToOpenAsGuest", "(II)I"⟩
abbrev cX5_reasonNotToUse : ByteArray := prog_7_method_9_code
def yX5_reasonNotToUse : MethodName := ⟨RX5, "reasonNotToUse", "(II)I"⟩
abbrev cX5_howManyCouldOpen : ByteArray := prog_7_method_10_code
def yX5_howManyCouldOpen : MethodName := ⟨RX5, "howManyCouldOpen", "(I)I"⟩
abbrev cX5_servantOpens : ByteArray := prog_7_method_11_code
def yX5_servantOpens : MethodName := ⟨RX5, "servantOpens", "(I)I"⟩
abbrev cX5_servantShuts : ByteArray := prog_7_method_12_code
def yX5_servantShuts : MethodName := ⟨RX5, "servantShuts", "(I)I"⟩
abbrev cX5_opensAsGuest : ByteArray := prog_7_method_13_code
def yX5_opensAsGuest : MethodName := ⟨RX5, "opensAsGuest", "(II)I"⟩
abbrev cX5_shutsAsGuest : ByteArray := prog_7_method_14_code
def yX5_shutsAsGuest : MethodName := ⟨RX5, "shutsAsGuest", "(II)I"⟩
abbrev cX5_walksThrough : ByteArray := prog_7_method_15_code
def yX5_walksThrough : MethodName := ⟨RX5, "walksThrough", "(II)I"⟩
abbrev cX5_laysCord : ByteArray := prog_7_method_16_code
def yX5_laysCord : MethodName := ⟨RX5, "laysCord", "(IZI)I"⟩
abbrev cX5_opensUnless : ByteArray := prog_7_method_17_code
def yX5_opensUnless : MethodName := ⟨RX5, "opensUnless", "(II)I"⟩
abbrev cX5_shutsUnless : ByteArray := prog_7_method_18_code
def yX5_shutsUnless : MethodName := ⟨RX5, "shutsUnless", "(II)I"⟩
def RX6 : String := "CordDoors$Stop"
def TX6 : u_T := fun k => match k with
  | 0 => ("CordDoors$Stop", "reason", "I", false)
  | 1 => ("CordDoors$Stop", "number", "I", false)
  | _ => ("CordDoors$Stop", "place", "I", false)
def tyX6 : Nat → FieldType := fun k => match k with
  | 0 => .int
  | 1 => .int
  | _ => .int
abbrev wsX60 : List Cond := u_ws RX6 TX6 3
theorem nmX6 : ∀ a, a < 3 → ∀ b, b < 3 → a ≠ b → (TX6 a).2.1 ≠ (TX6 b).2.1 := by decide +kernel
theorem tyX6_ok : ∀ k, k < 3 → parseFieldDescriptor (TX6 k).2.2.1 = some (tyX6 k) := by decide +kernel
abbrev cX6_init : ByteArray := prog_8_method_1_code
def yX6_init : MethodName := ⟨RX6, "<init>", "()V"⟩
abbrev cX6_forget : ByteArray := prog_8_method_2_code
def yX6_forget : MethodName := ⟨RX6, "forget", "()V"⟩
abbrev cX6_remember : ByteArray := prog_8_method_3_code
def yX6_remember : MethodName := ⟨RX6, "remember", "(III)V"⟩
abbrev cX6_happened : ByteArray := prog_8_method_4_code
def yX6_happened : MethodName := ⟨RX6, "happened", "()Z"⟩
def RX7 : String := "CordDoors$Ways"
def TX7 : u_T := fun k => match k with
  | 0 => ("CordDoors$Ways", "fewest", "[I", true)
  | 1 => ("CordDoors$Ways", "line", "[I", true)
  | _ => ("CordDoors$Ways", "inLine", "I", false)
def tyX7 : Nat → FieldType := fun k => match k with
  | 0 => .array .int
  | 1 => .array .int
  | _ => .int
abbrev wsX70 : List Cond := u_ws RX7 TX7 3
theorem nmX7 : ∀ a, a < 3 → ∀ b, b < 3 → a ≠ b → (TX7 a).2.1 ≠ (TX7 b).2.1 := by decide +kernel
theorem tyX7_ok : ∀ k, k < 3 → parseFieldDescriptor (TX7 k).2.2.1 = some (tyX7 k) := by decide +kernel
abbrev cX7_init : ByteArray := prog_9_method_1_code
def yX7_init : MethodName := ⟨RX7, "<init>", "()V"⟩
abbrev cX7_fromNowOn : ByteArray := prog_9_method_2_code
def yX7_fromNowOn : MethodName := ⟨RX7, "fromNowOn", "(LCordDoors$Loom;III)I"⟩
abbrev cX7_goOnFrom : ByteArray := prog_9_method_3_code
def yX7_goOnFrom : MethodName := ⟨RX7, "goOnFrom", "(LCordDoors$Loom;III)V"⟩
abbrev cX7_isSpot : ByteArray := prog_9_method_4_code
def yX7_isSpot : MethodName := ⟨RX7, "isSpot", "(I)Z"⟩
abbrev cX7_fewestOf : ByteArray := prog_9_method_5_code
def yX7_fewestOf : MethodName := ⟨RX7, "fewestOf", "(I)I"⟩
abbrev cX7_reach : ByteArray := prog_9_method_6_code
def yX7_reach : MethodName := ⟨RX7, "reach", "(II)V"⟩
abbrev cX7_fromHallBack : ByteArray := prog_9_method_7_code
def yX7_fromHallBack : MethodName := ⟨RX7, "fromHallBack", "(LCordDoors$Loom;III)I"⟩
abbrev cX7_begin : ByteArray := prog_9_method_8_code
def yX7_begin : MethodName := ⟨RX7, "begin", "(I)V"⟩
abbrev cX7_lineUpSets : ByteArray := prog_9_method_9_code
def yX7_lineUpSets : MethodName := ⟨RX7, "lineUpSets", "(LCordDoors$Loom;I)V"⟩
abbrev cX7_lessenAll : ByteArray := prog_9_method_10_code
def yX7_lessenAll : MethodName := ⟨RX7, "lessenAll", "(LCordDoors$Loom;II)I"⟩
abbrev cX7_lessen : ByteArray := prog_9_method_11_code
def yX7_lessen : MethodName := ⟨RX7, "lessen", "(II)I"⟩
def RX8 : String := "CordDoors"
def TX8 : u_T := fun k => match k with
  | 0 => ("CordDoors", "now", "LCordDoors$State;", true)
  | 1 => ("CordDoors", "history", "LCordDoors$History;", true)
  | 2 => ("CordDoors", "snapshot", "LCordDoors$State;", true)
  | 3 => ("CordDoors", "snapshotTaken", "Z", false)
  | 4 => ("CordDoors", "pad", "LCordDoors$Pad;", true)
  | 5 => ("CordDoors", "stop", "LCordDoors$Stop;", true)
  | _ => ("CordDoors", "ways", "LCordDoors$Ways;", true)
def tyX8 : Nat → FieldType := fun k => match k with
  | 0 => .object "CordDoors$State"
  | 1 => .object "CordDoors$History"
  | 2 => .object "CordDoors$State"
  | 3 => .boolean
  | 4 => .object "CordDoors$Pad"
  | 5 => .object "CordDoors$Stop"
  | _ => .object "CordDoors$Ways"
abbrev wsX80 : List Cond := u_ws RX8 TX8 7
theorem nmX8 : ∀ a, a < 7 → ∀ b, b < 7 → a ≠ b → (TX8 a).2.1 ≠ (TX8 b).2.1 := by decide +kernel
theorem tyX8_ok : ∀ k, k < 7 → parseFieldDescriptor (TX8 k).2.2.1 = some (tyX8 k) := by decide +kernel
abbrev cX8_init : ByteArray := prog_1_method_1_code
def yX8_init : MethodName := ⟨RX8, "<init>", "()V"⟩
abbrev cX8_open : ByteArray := prog_1_method_2_code
def yX8_open : MethodName := ⟨RX8, "open", "(I)I"⟩
abbrev cX8_shut : ByteArray := prog_1_method_3_code
def yX8_shut : MethodName := ⟨RX8, "shut", "(I)I"⟩
abbrev cX8_cord : ByteArray := prog_1_method_4_code
def yX8_cord : MethodName := ⟨RX8, "cord", "(IZI)I"⟩
abbrev cX8_join : ByteArray := prog_1_method_5_code
def yX8_join : MethodName := ⟨RX8, "join", "(III)I"⟩
abbrev cX8_keys : ByteArray := prog_1_method_6_code
def yX8_keys : MethodName := ⟨RX8, "keys", "(II)I"⟩
abbrev cX8_draft : ByteArray := prog_1_method_7_code
def yX8_draft : MethodName := ⟨RX8, "draft", "(I)I"⟩
abbrev cX8_guestOpens : ByteArray := prog_1_method_8_code
def yX8_guestOpens : MethodName := ⟨RX8, "guestOpens", "(II)I"⟩
abbrev cX8_guestShuts : ByteArray := prog_1_method_9_code
def yX8_guestShuts : MethodName := ⟨RX8, "guestShuts", "(II)I"⟩
abbrev cX8_walk : ByteArray := prog_1_method_10_code
def yX8_walk : MethodName := ⟨RX8, "walk", "(II)I"⟩
abbrev cX8_append : ByteArray := prog_1_method_11_code
def yX8_append : MethodName := ⟨RX8, "append", "(I)I"⟩
abbrev cX8_clear : ByteArray := prog_1_method_12_code
def yX8_clear : MethodName := ⟨RX8, "clear", "()I"⟩
abbrev cX8_fault : ByteArray := prog_1_method_13_code
def yX8_fault : MethodName := ⟨RX8, "fault", "()I"⟩
abbrev cX8_run : ByteArray := prog_1_method_14_code
def yX8_run : MethodName := ⟨RX8, "run", "()I"⟩
abbrev cX8_why : ByteArray := prog_1_method_15_code
def yX8_why : MethodName := ⟨RX8, "why", "(I)I"⟩
abbrev cX8_door : ByteArray := prog_1_method_16_code
def yX8_door : MethodName := ⟨RX8, "door", "(II)I"⟩
abbrev cX8_hall : ByteArray := prog_1_method_17_code
def yX8_hall : MethodName := ⟨RX8, "hall", "(II)I"⟩
abbrev cX8_guest : ByteArray := prog_1_method_18_code
def yX8_guest : MethodName := ⟨RX8, "guest", "(II)I"⟩
abbrev cX8_whyNot : ByteArray := prog_1_method_19_code
def yX8_whyNot : MethodName := ⟨RX8, "whyNot", "(I)I"⟩
abbrev cX8_together : ByteArray := prog_1_method_20_code
def yX8_together : MethodName := ⟨RX8, "together", "(I)I"⟩
abbrev cX8_can : ByteArray := prog_1_method_21_code
def yX8_can : MethodName := ⟨RX8, "can", "(I)I"⟩
abbrev cX8_deeds : ByteArray := prog_1_method_22_code
def yX8_deeds : MethodName := ⟨RX8, "deeds", "(III)I"⟩
abbrev cX8_count : ByteArray := prog_1_method_23_code
def yX8_count : MethodName := ⟨RX8, "count", "(I)I"⟩
abbrev cX8_tightness : ByteArray := prog_1_method_24_code
def yX8_tightness : MethodName := ⟨RX8, "tightness", "()D"⟩
abbrev cX8_ifOpened : ByteArray := prog_1_method_25_code
def yX8_ifOpened : MethodName := ⟨RX8, "ifOpened", "(II)I"⟩
abbrev cX8_undo : ByteArray := prog_1_method_26_code
def yX8_undo : MethodName := ⟨RX8, "undo", "()I"⟩
abbrev cX8_save : ByteArray := prog_1_method_27_code
def yX8_save : MethodName := ⟨RX8, "save", "()I"⟩
abbrev cX8_restore : ByteArray := prog_1_method_28_code
def yX8_restore : MethodName := ⟨RX8, "restore", "()I"⟩
abbrev cX8_isDoor : ByteArray := prog_1_method_29_code
def yX8_isDoor : MethodName := ⟨RX8, "isDoor", "(I)Z"⟩
abbrev cX8_isHall : ByteArray := prog_1_method_30_code
def yX8_isHall : MethodName := ⟨RX8, "isHall", "(I)Z"⟩
abbrev cX8_isGuest : ByteArray := prog_1_method_31_code
def yX8_isGuest : MethodName := ⟨RX8, "isGuest", "(I)Z"⟩
abbrev cX8_isSetOfDoors : ByteArray := prog_1_method_32_code
def yX8_isSetOfDoors : MethodName := ⟨RX8, "isSetOfDoors", "(I)Z"⟩
abbrev cX8_has : ByteArray := prog_1_method_33_code
def yX8_has : MethodName := ⟨RX8, "has", "(II)Z"⟩
abbrev cX8_without : ByteArray := prog_1_method_34_code
def yX8_without : MethodName := ⟨RX8, "without", "(II)I"⟩
abbrev cX8_spot : ByteArray := prog_1_method_35_code
def yX8_spot : MethodName := ⟨RX8, "spot", "(II)I"⟩
abbrev cX8_doorOrNotFound : ByteArray := prog_1_method_36_code
def yX8_doorOrNotFound : MethodName := ⟨RX8, "doorOrNotFound", "(I)I"⟩
abbrev cX8_runDeedAt : ByteArray := prog_1_method_37_code
def yX8_runDeedAt : MethodName := ⟨RX8, "runDeedAt", "(I)I"⟩
abbrev cX8_mostOfAllSets : ByteArray := prog_1_method_38_code
def yX8_mostOfAllSets : MethodName := ⟨RX8, "mostOfAllSets", "()I"⟩
abbrev cX8_mostDoorByDoor : ByteArray := prog_1_method_39_code
def yX8_mostDoorByDoor : MethodName := ⟨RX8, "mostDoorByDoor", "(LCordDoors$Loom;II)I"⟩
def RX9 : String := "CordDoorsModel"
def TX9 : u_T := fun k => match k with
  | _ => ("", "", "", false)
def tyX9 : Nat → FieldType := fun k => match k with
  | _ => .int
abbrev wsX90 : List Cond := u_ws RX9 TX9 0
theorem nmX9 : ∀ a, a < 0 → ∀ b, b < 0 → a ≠ b → (TX9 a).2.1 ≠ (TX9 b).2.1 := by decide +kernel
theorem tyX9_ok : ∀ k, k < 0 → parseFieldDescriptor (TX9 k).2.2.1 = some (tyX9 k) := by decide +kernel
def RJ6 : String := "java/lang/Integer"
def TJ6 : u_T := fun k => match k with
  | _ => ("", "", "", false)
def tyJ6 : Nat → FieldType := fun k => match k with
  | _ => .int
abbrev wsJ60 : List Cond := u_ws RJ6 TJ6 0
theorem nmJ6 : ∀ a, a < 0 → ∀ b, b < 0 → a ≠ b → (TJ6 a).2.1 ≠ (TJ6 b).2.1 := by decide +kernel
theorem tyJ6_ok : ∀ k, k < 0 → parseFieldDescriptor (TJ6 k).2.2.1 = some (tyJ6 k) := by decide +kernel
abbrev cJ6_bitCount_0f7a4 : ByteArray := prog_12_method_49_code
def yJ6_bitCount_0f7a4 : MethodName := ⟨RJ6, "bitCount", "(I)I"⟩
def RJ9 : String := "java/lang/Math"
def TJ9 : u_T := fun k => match k with
  | _ => ("", "", "", false)
def tyJ9 : Nat → FieldType := fun k => match k with
  | _ => .int
abbrev wsJ90 : List Cond := u_ws RJ9 TJ9 0
theorem nmJ9 : ∀ a, a < 0 → ∀ b, b < 0 → a ≠ b → (TJ9 a).2.1 ≠ (TJ9 b).2.1 := by decide +kernel
theorem tyJ9_ok : ∀ k, k < 0 → parseFieldDescriptor (TJ9 k).2.2.1 = some (tyJ9 k) := by decide +kernel
abbrev cJ9_floorMod_7cf53 : ByteArray := prog_13_method_50_code
def yJ9_floorMod_7cf53 : MethodName := ⟨RJ9, "floorMod", "(II)I"⟩
abbrev cJ9_max_7cf53 : ByteArray := prog_13_method_65_code
def yJ9_max_7cf53 : MethodName := ⟨RJ9, "max", "(II)I"⟩
abbrev cJ9_min_7cf53 : ByteArray := prog_13_method_69_code
def yJ9_min_7cf53 : MethodName := ⟨RJ9, "min", "(II)I"⟩
def RJ10 : String := "java/lang/System"
def TJ10 : u_T := fun k => match k with
  | _ => ("", "", "", false)
def tyJ10 : Nat → FieldType := fun k => match k with
  | _ => .int
abbrev wsJ100 : List Cond := u_ws RJ10 TJ10 0
theorem nmJ10 : ∀ a, a < 0 → ∀ b, b < 0 → a ≠ b → (TJ10 a).2.1 ≠ (TJ10 b).2.1 := by decide +kernel
theorem tyJ10_ok : ∀ k, k < 0 → parseFieldDescriptor (TJ10 k).2.2.1 = some (tyJ10 k) := by decide +kernel
def RJ7 : String := "java/util/Arrays"
def TJ7 : u_T := fun k => match k with
  | _ => ("", "", "", false)
def tyJ7 : Nat → FieldType := fun k => match k with
  | _ => .int
abbrev wsJ70 : List Cond := u_ws RJ7 TJ7 0
theorem nmJ7 : ∀ a, a < 0 → ∀ b, b < 0 → a ≠ b → (TJ7 a).2.1 ≠ (TJ7 b).2.1 := by decide +kernel
theorem tyJ7_ok : ∀ k, k < 0 → parseFieldDescriptor (TJ7 k).2.2.1 = some (tyJ7 k) := by decide +kernel
abbrev cJ7_fill_53178 : ByteArray := prog_15_method_103_code
def yJ7_fill_53178 : MethodName := ⟨RJ7, "fill", "([II)V"⟩
def RL : String := "CordDoorsLaw"
abbrev cL_cell : ByteArray := method_2_code
def yL_cell : MethodName := ⟨RL, "cell", "([II)I"⟩
abbrev cL_seen : ByteArray := method_3_code
def yL_seen : MethodName := ⟨RL, "seen", "(LCordDoors;)J"⟩
abbrev cL_size : ByteArray := method_4_code
def yL_size : MethodName := ⟨RL, "size", "(I)I"⟩
abbrev cL_areDoors : ByteArray := method_5_code
def yL_areDoors : MethodName := ⟨RL, "areDoors", "(LCordDoors;)Z"⟩
abbrev cL_areHalls : ByteArray := method_6_code
def yL_areHalls : MethodName := ⟨RL, "areHalls", "(LCordDoors;)Z"⟩
abbrev cL_refusesAny : ByteArray := method_7_code
def yL_refusesAny : MethodName := ⟨RL, "refusesAny", "(LCordDoors;I)Z"⟩
abbrev cL_refuses : ByteArray := method_8_code
def yL_refuses : MethodName := ⟨RL, "refuses", "(LCordDoors;I)Z"⟩
abbrev cL_act : ByteArray := method_9_code
def yL_act : MethodName := ⟨RL, "act", "(LCordDoors;I)I"⟩
abbrev cL_isDeed : ByteArray := method_10_code
def yL_isDeed : MethodName := ⟨RL, "isDeed", "(I)Z"⟩
abbrev cL_law : ByteArray := code
def yL_law : MethodName := ⟨RL, "law", "([I)Z"⟩
abbrev vwCl : List vw_C := [(RX0, TX0, 7), (RX1, TX1, 3), (RX2, TX2, 3), (RX3, TX3, 6), (RX4, TX4, 2), (RX5, TX5, 4), (RX6, TX6, 3), (RX7, TX7, 3), (RX8, TX8, 7)]

