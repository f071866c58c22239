set_option maxHeartbeats 4000000 in
set_option maxRecDepth 100000 in
theorem c_L_cell (l : Launch) (G : GG) (bX LX : Nat) (xs : Nat → Int32) (i0 : Int32) (Q : Int32 → Prop) (hw : wp_L_cell xs LX i0 Q) : ConX l G bX LX xs yL_cell cL_cell 2 (some .int) { frames := 0, cells := 0, slots := 0, locals := 0 } [.ref bX, .int i0] (PI (fun _ : Unit => []) (fun r _ => Q r)) := by
  refine con_ofX RL rfl (by decide) [(0, .ref bX), (1, .int i0)] rfl (Nat.le_of_ble_eq_true rfl) ?_
  intro p e s m args below meth c S hX hbl
  refine v_iload_n (pc2 := 1) S 1 dL_cell_0 rfl rfl rfl ?_
  refine v_aload_n (pc2 := 2) S 0 dL_cell_1 rfl rfl rfl ?_
  refine v_slenA (pc2 := 3) S hX hbl (not_A0 hbl) dL_cell_2 rfl ?_
  refine v_icmp_ge (pc2 := 6) (tgt := 12) S dL_cell_3 (by decide) rfl (fun c1 => ?_) (fun c1 => ?_)
  · have hw := hw.1 c1
    refine v_ldc (pc2 := 14) S u_476 dL_cell_12 rfl ?_
    refine v_iload_n (pc2 := 15) S 1 dL_cell_14 rfl rfl rfl ?_
    refine v_sipush (v := 401) (pc2 := 18) S dL_cell_15 (by decide) rfl ?_
    refine v_iadd (pc2 := 19) S dL_cell_18 rfl ?_
    refine v_imul (pc2 := 20) S dL_cell_19 rfl ?_
    refine v_ldc (pc2 := 22) S u_477 dL_cell_20 rfl ?_
    refine v_iadd (pc2 := 23) S dL_cell_22 rfl ?_
    refine v_ldc (pc2 := 25) S u_478 dL_cell_23 rfl ?_
    refine v_iand (pc2 := 26) S dL_cell_25 rfl ?_
    exact v_iret S ⟨(((812496072 : Int32) * (i0 + (401 : Int32))) + (74017 : Int32)) &&& (2147483647 : Int32), (), rfl, rfl, hw⟩ dL_cell_26
  · have hw := hw.2 c1
    refine v_aload_n (pc2 := 7) S 0 dL_cell_6 rfl rfl rfl ?_
    refine v_iload_n (pc2 := 8) S 1 dL_cell_7 rfl rfl rfl ?_
    obtain ⟨h2, hw⟩ := hw
    refine v_sldA (pc2 := 9) S hX hbl (not_A0 hbl) h2 dL_cell_8 rfl ?_
    refine v_goto (tgt := 23) S dL_cell_9 (by decide) ?_
    refine v_ldc (pc2 := 25) S u_478 dL_cell_23 rfl ?_
    refine v_iand (pc2 := 26) S dL_cell_25 rfl ?_
    exact v_iret S ⟨(xs i0.toNatClampNeg) &&& (2147483647 : Int32), (), rfl, rfl, hw⟩ dL_cell_26
set_option maxHeartbeats 4000000 in
set_option maxRecDepth 100000 in
theorem c_L_seen (l : Launch) (G : GG) (a0 : CDA) (v0 : CDV) (Q : Int64 → Prop) (hw : wp_L_seen v0 Q) : Con l G yL_seen cL_seen 4 (some .long) { frames := 6, cells := 0, slots := 0, locals := 132 } [.ref a0.1] (wCD G a0 v0.1 v0.2.1 v0.2.2.1 v0.2.2.2.1 v0.2.2.2.2.1 v0.2.2.2.2.2.1 v0.2.2.2.2.2.2) (PL (fun _ : Unit => wCD G a0 v0.1 v0.2.1 v0.2.2.1 v0.2.2.2.1 v0.2.2.2.2.1 v0.2.2.2.2.2.1 v0.2.2.2.2.2.2) (fun r _ => Q r)) 0 0 := by
  refine con_of RL rfl (by decide) [(0, .ref a0.1)] rfl (Nat.le_of_ble_eq_true rfl) ?_
  intro p e s m args below meth c S hname
  have L67 : ∀ (kk : Nat) (x1 : Int64) (x3 : Int32), wp_L_seen_L67 v0 Q kk x1 x3 → V p l e { frames := 6, cells := 0, slots := 0, locals := 132 } s m args below meth c G (va_A (wCD G a0 v0.1 v0.2.1 v0.2.2.1 v0.2.2.2.1 v0.2.2.2.2.1 v0.2.2.2.2.2.1 v0.2.2.2.2.2.2) s.heap.size) 4 0 0 (MQ below (EQ G (wCD G a0 v0.1 v0.2.1 v0.2.2.1 v0.2.2.2.1 v0.2.2.2.2.1 v0.2.2.2.2.2.1 v0.2.2.2.2.2.2) s.heap.size (PL (fun _ : Unit => wCD G a0 v0.1 v0.2.1 v0.2.2.1 v0.2.2.2.1 v0.2.2.2.2.1 v0.2.2.2.2.2.1 v0.2.2.2.2.2.2) (fun r _ => Q r))) args s 0 0 (va_A (wCD G a0 v0.1 v0.2.1 v0.2.2.1 v0.2.2.2.1 v0.2.2.2.2.1 v0.2.2.2.2.2.1 v0.2.2.2.2.2.2) s.heap.size)) (wCD G a0 v0.1 v0.2.1 v0.2.2.1 v0.2.2.2.1 v0.2.2.2.2.1 v0.2.2.2.2.2.1 v0.2.2.2.2.2.2) 67 [(0, .ref a0.1), (1, .long x1), (3, .int x3)] [] := by
    intro kk
    induction kk with
    | zero => intro x1 x3 hw; exact hw.elim
    | succ n ih =>
      intro x1 x3 hw
      refine v_iload_n (pc2 := 68) S 2 dL_seen_67 rfl rfl rfl ?_
      refine v_bipush (v := 12) (pc2 := 70) S dL_seen_68 (by decide) rfl ?_
      refine v_icmp_ge (pc2 := 73) (tgt := 97) S dL_seen_70 (by decide) rfl (fun c4 => ?_) (fun c4 => ?_)
      · have hw := hw.1 c4
        refine v_lload_n (pc2 := 98) S 1 dL_seen_97 rfl rfl rfl ?_
        exact v_lret S ⟨x1, (), rfl, rfl, hw⟩ dL_seen_98
      · have hw := hw.2 c4
        refine v_ldc2 (pc2 := 76) S u_483 dL_seen_73 rfl ?_
        refine v_lload_n (pc2 := 77) S 1 dL_seen_76 rfl rfl rfl ?_
        refine v_lmul (pc2 := 78) S dL_seen_77 rfl ?_
        refine v_aload_n (pc2 := 79) S 0 dL_seen_78 rfl rfl rfl ?_
        refine v_iload_n (pc2 := 80) S 2 dL_seen_79 rfl rfl rfl ?_
        refine v_iconst (v := 4) (pc2 := 81) S dL_seen_80 (by decide) rfl ?_
        refine v_idiv (pc2 := 82) S (by decide) dL_seen_81 rfl ?_
        refine v_iload_n (pc2 := 83) S 2 dL_seen_82 rfl rfl rfl ?_
        refine v_iconst (v := 4) (pc2 := 84) S dL_seen_83 (by decide) rfl ?_
        refine v_irem (pc2 := 85) S (by decide) dL_seen_84 rfl ?_
        refine v_callV (pc2 := 88) (As := [.int (x3 / (4 : Int32)), .int (x3 - x3 / (4 : Int32) * (4 : Int32))]) (rest := [.long ((31 : Int64) * x1)]) S (c_X8_guest l G a0 v0 (x3 / (4 : Int32)) (x3 - x3 / (4 : Int32) * (4 : Int32)) _ hw) mf_X8_guest u_252 u_253 u_254 0 8 rfl rfl rfl rfl ⟨rfl, rfl⟩ ⟨Nat.le_of_ble_eq_true rfl, Nat.le_of_ble_eq_true rfl⟩ ⟨Nat.le_of_ble_eq_true rfl, Nat.le_of_ble_eq_true rfl⟩ (Nat.le_of_ble_eq_true rfl) dL_seen_85 (frW _) rfl (pi (fun r5 u6 hw => ?_))
        refine v_to (wCD G a0 v0.1 v0.2.1 v0.2.2.1 v0.2.2.2.1 v0.2.2.2.2.1 v0.2.2.2.2.2.1 v0.2.2.2.2.2.2) 88 [(0, .ref a0.1), (1, .long x1), (3, .int x3)] _ [.int r5, .long ((31 : Int64) * x1)] rfl rfl rfl rfl ?_
        refine v_i2l (pc2 := 89) S dL_seen_88 rfl ?_
        refine v_ladd (pc2 := 90) S dL_seen_89 rfl ?_
        refine v_nml (fun z7 ez7 => ?_)
        have hw := hw z7 ez7
        refine v_lstore_n (lv2 := [(0, .ref a0.1), (1, .long z7), (3, .int x3)]) (pc2 := 91) S dL_seen_90 rfl (by decide) [1, 0, 2] rfl rfl ?_
        obtain ⟨z8, ez8⟩ : ∃ y : Int32, y = x3 + (1 : Int32) := ⟨_, rfl⟩
        have hw := hw z8 ez8
        refine v_iinc (v := z8) (lv2 := [(0, .ref a0.1), (1, .long z7), (3, .int z8)]) (pc2 := 94) S 2 dL_seen_91 rfl (by rw [ez8]; rfl) (by decide) [1, 2, 0] rfl rfl ?_
        refine v_goto (tgt := 67) S dL_seen_94 (by decide) ?_
        exact ih z7 z8 hw
  have L33 : ∀ (kk : Nat) (x1 : Int64) (x3 : Int32), wp_L_seen_L33 v0 Q kk x1 x3 → V p l e { frames := 6, cells := 0, slots := 0, locals := 132 } s m args below meth c G (va_A (wCD G a0 v0.1 v0.2.1 v0.2.2.1 v0.2.2.2.1 v0.2.2.2.2.1 v0.2.2.2.2.2.1 v0.2.2.2.2.2.2) s.heap.size) 4 0 0 (MQ below (EQ G (wCD G a0 v0.1 v0.2.1 v0.2.2.1 v0.2.2.2.1 v0.2.2.2.2.1 v0.2.2.2.2.2.1 v0.2.2.2.2.2.2) s.heap.size (PL (fun _ : Unit => wCD G a0 v0.1 v0.2.1 v0.2.2.1 v0.2.2.2.1 v0.2.2.2.2.1 v0.2.2.2.2.2.1 v0.2.2.2.2.2.2) (fun r _ => Q r))) args s 0 0 (va_A (wCD G a0 v0.1 v0.2.1 v0.2.2.1 v0.2.2.2.1 v0.2.2.2.2.1 v0.2.2.2.2.2.1 v0.2.2.2.2.2.2) s.heap.size)) (wCD G a0 v0.1 v0.2.1 v0.2.2.1 v0.2.2.2.1 v0.2.2.2.2.1 v0.2.2.2.2.2.1 v0.2.2.2.2.2.2) 33 [(0, .ref a0.1), (1, .long x1), (3, .int x3)] [] := by
    intro kk
    induction kk with
    | zero => intro x1 x3 hw; exact hw.elim
    | succ n ih =>
      intro x1 x3 hw
      refine v_iload_n (pc2 := 34) S 2 dL_seen_33 rfl rfl rfl ?_
      refine v_bipush (v := 100) (pc2 := 36) S dL_seen_34 (by decide) rfl ?_
      refine v_icmp_ge (pc2 := 39) (tgt := 65) S dL_seen_36 (by decide) rfl (fun c3 => ?_) (fun c3 => ?_)
      · have hw := hw.1 c3
        refine v_iconst (v := 0) (pc2 := 66) S dL_seen_65 (by decide) rfl ?_
        refine v_istore_n (lv2 := [(0, .ref a0.1), (1, .long x1), (3, .int (0 : Int32))]) (pc2 := 67) S dL_seen_66 rfl (by decide) [1, 2, 0] rfl rfl ?_
        obtain ⟨kk, hw⟩ := hw
        exact L67 kk x1 (0 : Int32) hw
      · have hw := hw.2 c3
        refine v_ldc2 (pc2 := 42) S u_483 dL_seen_39 rfl ?_
        refine v_lload_n (pc2 := 43) S 1 dL_seen_42 rfl rfl rfl ?_
        refine v_lmul (pc2 := 44) S dL_seen_43 rfl ?_
        refine v_aload_n (pc2 := 45) S 0 dL_seen_44 rfl rfl rfl ?_
        refine v_iload_n (pc2 := 46) S 2 dL_seen_45 rfl rfl rfl ?_
        refine v_bipush (v := 10) (pc2 := 48) S dL_seen_46 (by decide) rfl ?_
        refine v_idiv (pc2 := 49) S (by decide) dL_seen_48 rfl ?_
        refine v_iload_n (pc2 := 50) S 2 dL_seen_49 rfl rfl rfl ?_
        refine v_bipush (v := 10) (pc2 := 52) S dL_seen_50 (by decide) rfl ?_
        refine v_irem (pc2 := 53) S (by decide) dL_seen_52 rfl ?_
        refine v_callV (pc2 := 56) (As := [.int (x3 / (10 : Int32)), .int (x3 - x3 / (10 : Int32) * (10 : Int32))]) (rest := [.long ((31 : Int64) * x1)]) S (c_X8_door l G a0 v0 (x3 / (10 : Int32)) (x3 - x3 / (10 : Int32) * (10 : Int32)) _ hw) mf_X8_door u_484 u_485 u_486 0 8 rfl rfl rfl rfl ⟨rfl, rfl⟩ ⟨Nat.le_of_ble_eq_true rfl, Nat.le_of_ble_eq_true rfl⟩ ⟨Nat.le_of_ble_eq_true rfl, Nat.le_of_ble_eq_true rfl⟩ (Nat.le_of_ble_eq_true rfl) dL_seen_53 (frW _) rfl (pi (fun r9 u10 hw => ?_))
        refine v_to (wCD G a0 v0.1 v0.2.1 v0.2.2.1 v0.2.2.2.1 v0.2.2.2.2.1 v0.2.2.2.2.2.1 v0.2.2.2.2.2.2) 56 [(0, .ref a0.1), (1, .long x1), (3, .int x3)] _ [.int r9, .long ((31 : Int64) * x1)] rfl rfl rfl rfl ?_
        refine v_i2l (pc2 := 57) S dL_seen_56 rfl ?_
        refine v_ladd (pc2 := 58) S dL_seen_57 rfl ?_
        refine v_nml (fun z11 ez11 => ?_)
        have hw := hw z11 ez11
        refine v_lstore_n (lv2 := [(0, .ref a0.1), (1, .long z11), (3, .int x3)]) (pc2 := 59) S dL_seen_58 rfl (by decide) [1, 0, 2] rfl rfl ?_
        obtain ⟨z12, ez12⟩ : ∃ y : Int32, y = x3 + (1 : Int32) := ⟨_, rfl⟩
        have hw := hw z12 ez12
        refine v_iinc (v := z12) (lv2 := [(0, .ref a0.1), (1, .long z11), (3, .int z12)]) (pc2 := 62) S 2 dL_seen_59 rfl (by rw [ez12]; rfl) (by decide) [1, 2, 0] rfl rfl ?_
        refine v_goto (tgt := 33) S dL_seen_62 (by decide) ?_
        exact ih z11 z12 hw
  have L6 : ∀ (kk : Nat) (x1 : Int64) (x3 : Int32), wp_L_seen_L6 v0 Q kk x1 x3 → V p l e { frames := 6, cells := 0, slots := 0, locals := 132 } s m args below meth c G (va_A (wCD G a0 v0.1 v0.2.1 v0.2.2.1 v0.2.2.2.1 v0.2.2.2.2.1 v0.2.2.2.2.2.1 v0.2.2.2.2.2.2) s.heap.size) 4 0 0 (MQ below (EQ G (wCD G a0 v0.1 v0.2.1 v0.2.2.1 v0.2.2.2.1 v0.2.2.2.2.1 v0.2.2.2.2.2.1 v0.2.2.2.2.2.2) s.heap.size (PL (fun _ : Unit => wCD G a0 v0.1 v0.2.1 v0.2.2.1 v0.2.2.2.1 v0.2.2.2.2.1 v0.2.2.2.2.2.1 v0.2.2.2.2.2.2) (fun r _ => Q r))) args s 0 0 (va_A (wCD G a0 v0.1 v0.2.1 v0.2.2.1 v0.2.2.2.1 v0.2.2.2.2.1 v0.2.2.2.2.2.1 v0.2.2.2.2.2.2) s.heap.size)) (wCD G a0 v0.1 v0.2.1 v0.2.2.1 v0.2.2.2.1 v0.2.2.2.2.1 v0.2.2.2.2.2.1 v0.2.2.2.2.2.2) 6 [(0, .ref a0.1), (1, .long x1), (3, .int x3)] [] := by
    intro kk
    induction kk with
    | zero => intro x1 x3 hw; exact hw.elim
    | succ n ih =>
      intro x1 x3 hw
      refine v_iload_n (pc2 := 7) S 2 dL_seen_6 rfl rfl rfl ?_
      refine v_bipush (v := 13) (pc2 := 9) S dL_seen_7 (by decide) rfl ?_
      refine v_icmp_ge (pc2 := 12) (tgt := 31) S dL_seen_9 (by decide) rfl (fun c2 => ?_) (fun c2 => ?_)
      · have hw := hw.1 c2
        refine v_iconst (v := 0) (pc2 := 32) S dL_seen_31 (by decide) rfl ?_
        refine v_istore_n (lv2 := [(0, .ref a0.1), (1, .long x1), (3, .int (0 : Int32))]) (pc2 := 33) S dL_seen_32 rfl (by decide) [1, 2, 0] rfl rfl ?_
        obtain ⟨kk, hw⟩ := hw
        exact L33 kk x1 (0 : Int32) hw
      · have hw := hw.2 c2
        refine v_ldc2 (pc2 := 15) S u_483 dL_seen_12 rfl ?_
        refine v_lload_n (pc2 := 16) S 1 dL_seen_15 rfl rfl rfl ?_
        refine v_lmul (pc2 := 17) S dL_seen_16 rfl ?_
        refine v_aload_n (pc2 := 18) S 0 dL_seen_17 rfl rfl rfl ?_
        refine v_iload_n (pc2 := 19) S 2 dL_seen_18 rfl rfl rfl ?_
        refine v_callV (pc2 := 22) (As := [.int x3]) (rest := [.long ((31 : Int64) * x1)]) S (c_X8_count l G a0 v0 x3 _ hw) mf_X8_count u_398 u_399 u_400 0 8 rfl rfl rfl rfl ⟨rfl, rfl⟩ ⟨Nat.le_of_ble_eq_true rfl, Nat.le_of_ble_eq_true rfl⟩ ⟨Nat.le_of_ble_eq_true rfl, Nat.le_of_ble_eq_true rfl⟩ (Nat.le_of_ble_eq_true rfl) dL_seen_19 (frW _) rfl (pi (fun r13 u14 hw => ?_))
        refine v_to (wCD G a0 v0.1 v0.2.1 v0.2.2.1 v0.2.2.2.1 v0.2.2.2.2.1 v0.2.2.2.2.2.1 v0.2.2.2.2.2.2) 22 [(0, .ref a0.1), (1, .long x1), (3, .int x3)] _ [.int r13, .long ((31 : Int64) * x1)] rfl rfl rfl rfl ?_
        refine v_i2l (pc2 := 23) S dL_seen_22 rfl ?_
        refine v_ladd (pc2 := 24) S dL_seen_23 rfl ?_
        refine v_nml (fun z15 ez15 => ?_)
        have hw := hw z15 ez15
        refine v_lstore_n (lv2 := [(0, .ref a0.1), (1, .long z15), (3, .int x3)]) (pc2 := 25) S dL_seen_24 rfl (by decide) [1, 0, 2] rfl rfl ?_
        obtain ⟨z16, ez16⟩ : ∃ y : Int32, y = x3 + (1 : Int32) := ⟨_, rfl⟩
        have hw := hw z16 ez16
        refine v_iinc (v := z16) (lv2 := [(0, .ref a0.1), (1, .long z15), (3, .int z16)]) (pc2 := 28) S 2 dL_seen_25 rfl (by rw [ez16]; rfl) (by decide) [1, 2, 0] rfl rfl ?_
        refine v_goto (tgt := 6) S dL_seen_28 (by decide) ?_
        exact ih z15 z16 hw
  refine v_ldc2 (pc2 := 3) S u_482 dL_seen_0 rfl ?_
  refine v_nml (fun z1 ez1 => ?_)
  have hw := hw z1 ez1
  refine v_lstore_n (lv2 := [(0, .ref a0.1), (1, .long z1)]) (pc2 := 4) S dL_seen_3 rfl (by decide) [1, 0] rfl rfl ?_
  refine v_iconst (v := 0) (pc2 := 5) S dL_seen_4 (by decide) rfl ?_
  refine v_istore_n (lv2 := [(0, .ref a0.1), (1, .long z1), (3, .int (0 : Int32))]) (pc2 := 6) S dL_seen_5 rfl (by decide) [1, 2, 0] rfl rfl ?_
  obtain ⟨kk, hw⟩ := hw
  exact L6 kk z1 (0 : Int32) hw
set_option maxHeartbeats 4000000 in
set_option maxRecDepth 100000 in
theorem c_L_size (l : Launch) (G : GG) (i0 : Int32) (Q : Int32 → Prop) (hw : wp_L_size i0 Q) : Con l G yL_size cL_size 3 (some .int) { frames := 0, cells := 0, slots := 0, locals := 0 } [.int i0] ([]) (PI (fun _ : Unit => []) (fun r _ => Q r)) 0 0 := by
  refine con_of RL rfl (by decide) [(0, .int i0)] rfl (Nat.le_of_ble_eq_true rfl) ?_
  intro p e s m args below meth c S hname
  have L4 : ∀ (kk : Nat) (x1 : Int32) (x2 : Int32), wp_L_size_L4 Q kk x1 x2 → V p l e { frames := 0, cells := 0, slots := 0, locals := 0 } s m args below meth c G (va_A ([]) s.heap.size) 3 0 0 (MQ below (EQ G ([]) s.heap.size (PI (fun _ : Unit => []) (fun r _ => Q r))) args s 0 0 (va_A ([]) s.heap.size)) ([]) 4 [(1, .int x1), (2, .int x2)] [] := by
    intro kk
    induction kk with
    | zero => intro x1 x2 hw; exact hw.elim
    | succ n ih =>
      intro x1 x2 hw
      refine v_iload_n (pc2 := 5) S 1 dL_size_4 rfl rfl rfl ?_
      refine v_if_eq (pc2 := 8) (tgt := 20) S dL_size_5 (by decide) rfl (fun c1 => ?_) (fun c1 => ?_)
      · have hw := hw.1 c1
        refine v_iload_n (pc2 := 21) S 0 dL_size_20 rfl rfl rfl ?_
        exact v_iret S ⟨x1, (), rfl, rfl, hw⟩ dL_size_21
      · have hw := hw.2 c1
        obtain ⟨z2, ez2⟩ : ∃ y : Int32, y = x1 + (1 : Int32) := ⟨_, rfl⟩
        have hw := hw z2 ez2
        refine v_iinc (v := z2) (lv2 := [(1, .int z2), (2, .int x2)]) (pc2 := 11) S 0 dL_size_8 rfl (by rw [ez2]; rfl) (by decide) [0, 1] rfl rfl ?_
        refine v_iload_n (pc2 := 12) S 1 dL_size_11 rfl rfl rfl ?_
        refine v_iload_n (pc2 := 13) S 1 dL_size_12 rfl rfl rfl ?_
        refine v_iconst (v := 1) (pc2 := 14) S dL_size_13 (by decide) rfl ?_
        refine v_isub (pc2 := 15) S dL_size_14 rfl ?_
        refine v_iand (pc2 := 16) S dL_size_15 rfl ?_
        refine v_nm (fun z3 ez3 => ?_)
        have hw := hw z3 ez3
        refine v_istore_n (lv2 := [(1, .int z2), (2, .int z3)]) (pc2 := 17) S dL_size_16 rfl (by decide) [1, 0] rfl rfl ?_
        refine v_goto (tgt := 4) S dL_size_17 (by decide) ?_
        exact ih z2 z3 hw
  refine v_iconst (v := 0) (pc2 := 1) S dL_size_0 (by decide) rfl ?_
  refine v_istore_n (lv2 := [(0, .int i0), (1, .int (0 : Int32))]) (pc2 := 2) S dL_size_1 rfl (by decide) [1, 0] rfl rfl ?_
  refine v_iload_n (pc2 := 3) S 0 dL_size_2 rfl rfl rfl ?_
  refine v_istore_n (lv2 := [(0, .int i0), (1, .int (0 : Int32)), (2, .int i0)]) (pc2 := 4) S dL_size_3 rfl (by decide) [1, 2, 0] rfl rfl ?_
  refine v_lv [(1, .int (0 : Int32)), (2, .int i0)] [1, 2] rfl ?_
  obtain ⟨kk, hw⟩ := hw
  exact L4 kk (0 : Int32) i0 hw
set_option maxHeartbeats 4000000 in
set_option maxRecDepth 100000 in
theorem c_L_areDoors (l : Launch) (G : GG) (a0 : CDA) (v0 : CDV) (Q : Int32 → Prop) (hw : wp_L_areDoors v0 Q) : Con l G yL_areDoors cL_areDoors 15 (some .boolean) { frames := 4, cells := 0, slots := 0, locals := 93 } [.ref a0.1] (wCD G a0 v0.1 v0.2.1 v0.2.2.1 v0.2.2.2.1 v0.2.2.2.2.1 v0.2.2.2.2.2.1 v0.2.2.2.2.2.2) (PB (fun _ : Unit => wCD G a0 v0.1 v0.2.1 v0.2.2.1 v0.2.2.2.1 v0.2.2.2.2.1 v0.2.2.2.2.2.1 v0.2.2.2.2.2.2) (fun r _ => Q r)) 0 0 := by
  refine con_of RL rfl (by decide) [(0, .ref a0.1)] rfl (Nat.le_of_ble_eq_true rfl) ?_
  intro p e s m args below meth c S hname
  have B645 : ∀ (x2 : Int32) (t0 : Int32), wp_L_areDoors_B645 v0 x2 t0 Q → V p l e { frames := 4, cells := 0, slots := 0, locals := 93 } s m args below meth c G (va_A (wCD G a0 v0.1 v0.2.1 v0.2.2.1 v0.2.2.2.1 v0.2.2.2.2.1 v0.2.2.2.2.2.1 v0.2.2.2.2.2.2) s.heap.size) 15 0 0 (MQ below (EQ G (wCD G a0 v0.1 v0.2.1 v0.2.2.1 v0.2.2.2.1 v0.2.2.2.2.1 v0.2.2.2.2.2.1 v0.2.2.2.2.2.2) s.heap.size (PB (fun _ : Unit => wCD G a0 v0.1 v0.2.1 v0.2.2.1 v0.2.2.2.1 v0.2.2.2.2.1 v0.2.2.2.2.2.1 v0.2.2.2.2.2.2) (fun r _ => Q r))) args s 0 0 (va_A (wCD G a0 v0.1 v0.2.1 v0.2.2.1 v0.2.2.2.1 v0.2.2.2.2.1 v0.2.2.2.2.2.1 v0.2.2.2.2.2.2) s.heap.size)) (wCD G a0 v0.1 v0.2.1 v0.2.2.1 v0.2.2.2.1 v0.2.2.2.2.1 v0.2.2.2.2.2.1 v0.2.2.2.2.2.2) 645 [(0, .ref a0.1), (2, .int x2)] [.int t0] := by
    intro x2 t0 hw
    refine v_iload_n (pc2 := 646) S 1 dL_areDoors_645 rfl rfl rfl ?_
    refine v_if_le (pc2 := 649) (tgt := 653) S dL_areDoors_646 (by decide) rfl (fun c36 => ?_) (fun c36 => ?_)
    · have hw := hw.1 c36
      refine v_iconst (v := 0) (pc2 := 654) S dL_areDoors_653 (by decide) rfl ?_
      refine v_icmp_ne (pc2 := 657) (tgt := 672) S dL_areDoors_654 (by decide) rfl (fun c37 => ?_) (fun c37 => ?_)
      · have hw := hw.1 c37
        refine v_iconst (v := 0) (pc2 := 673) S dL_areDoors_672 (by decide) rfl ?_
        exact v_zret S (by decide) ⟨(0 : Int32), (), rfl, (by decide), rfl, hw⟩ dL_areDoors_673
      · have hw := hw.2 c37
        refine v_aload_n (pc2 := 658) S 0 dL_areDoors_657 rfl rfl rfl ?_
        refine v_bipush (v := 6) (pc2 := 660) S dL_areDoors_658 (by decide) rfl ?_
        refine v_callV (pc2 := 663) (As := [.int (6 : Int32)]) (rest := []) S (c_X8_count l G a0 v0 (6 : Int32) _ hw) mf_X8_count u_398 u_399 u_400 0 8 rfl rfl rfl rfl ⟨rfl, rfl⟩ ⟨Nat.le_of_ble_eq_true rfl, Nat.le_of_ble_eq_true rfl⟩ ⟨Nat.le_of_ble_eq_true rfl, Nat.le_of_ble_eq_true rfl⟩ (Nat.le_of_ble_eq_true rfl) dL_areDoors_660 (frW _) rfl (pi (fun r38 u39 hw => ?_))
        refine v_to (wCD G a0 v0.1 v0.2.1 v0.2.2.1 v0.2.2.2.1 v0.2.2.2.2.1 v0.2.2.2.2.2.1 v0.2.2.2.2.2.2) 663 [(0, .ref a0.1), (2, .int x2)] _ [.int r38] rfl rfl rfl rfl ?_
        refine v_bipush (v := 10) (pc2 := 665) S dL_areDoors_663 (by decide) rfl ?_
        refine v_icmp_gt (pc2 := 668) (tgt := 672) S dL_areDoors_665 (by decide) rfl (fun c40 => ?_) (fun c40 => ?_)
        · have hw := hw.1 c40
          refine v_iconst (v := 0) (pc2 := 673) S dL_areDoors_672 (by decide) rfl ?_
          exact v_zret S (by decide) ⟨(0 : Int32), (), rfl, (by decide), rfl, hw⟩ dL_areDoors_673
        · have hw := hw.2 c40
          refine v_iconst (v := 1) (pc2 := 669) S dL_areDoors_668 (by decide) rfl ?_
          refine v_goto (tgt := 673) S dL_areDoors_669 (by decide) ?_
          exact v_zret S (by decide) ⟨(1 : Int32), (), rfl, (by decide), rfl, hw⟩ dL_areDoors_673
    · have hw := hw.2 c36
      refine v_iconst (v := 1) (pc2 := 650) S dL_areDoors_649 (by decide) rfl ?_
      refine v_goto (tgt := 654) S dL_areDoors_650 (by decide) ?_
      refine v_icmp_ne (pc2 := 657) (tgt := 672) S dL_areDoors_654 (by decide) rfl (fun c41 => ?_) (fun c41 => ?_)
      · have hw := hw.1 c41
        refine v_iconst (v := 0) (pc2 := 673) S dL_areDoors_672 (by decide) rfl ?_
        exact v_zret S (by decide) ⟨(0 : Int32), (), rfl, (by decide), rfl, hw⟩ dL_areDoors_673
      · have hw := hw.2 c41
        refine v_aload_n (pc2 := 658) S 0 dL_areDoors_657 rfl rfl rfl ?_
        refine v_bipush (v := 6) (pc2 := 660) S dL_areDoors_658 (by decide) rfl ?_
        refine v_callV (pc2 := 663) (As := [.int (6 : Int32)]) (rest := []) S (c_X8_count l G a0 v0 (6 : Int32) _ hw) mf_X8_count u_398 u_399 u_400 0 8 rfl rfl rfl rfl ⟨rfl, rfl⟩ ⟨Nat.le_of_ble_eq_true rfl, Nat.le_of_ble_eq_true rfl⟩ ⟨Nat.le_of_ble_eq_true rfl, Nat.le_of_ble_eq_true rfl⟩ (Nat.le_of_ble_eq_true rfl) dL_areDoors_660 (frW _) rfl (pi (fun r42 u43 hw => ?_))
        refine v_to (wCD G a0 v0.1 v0.2.1 v0.2.2.1 v0.2.2.2.1 v0.2.2.2.2.1 v0.2.2.2.2.2.1 v0.2.2.2.2.2.2) 663 [(0, .ref a0.1), (2, .int x2)] _ [.int r42] rfl rfl rfl rfl ?_
        refine v_bipush (v := 10) (pc2 := 665) S dL_areDoors_663 (by decide) rfl ?_
        refine v_icmp_gt (pc2 := 668) (tgt := 672) S dL_areDoors_665 (by decide) rfl (fun c44 => ?_) (fun c44 => ?_)
        · have hw := hw.1 c44
          refine v_iconst (v := 0) (pc2 := 673) S dL_areDoors_672 (by decide) rfl ?_
          exact v_zret S (by decide) ⟨(0 : Int32), (), rfl, (by decide), rfl, hw⟩ dL_areDoors_673
        · have hw := hw.2 c44
          refine v_iconst (v := 1) (pc2 := 669) S dL_areDoors_668 (by decide) rfl ?_
          refine v_goto (tgt := 673) S dL_areDoors_669 (by decide) ?_
          exact v_zret S (by decide) ⟨(1 : Int32), (), rfl, (by decide), rfl, hw⟩ dL_areDoors_673
  have B517 : ∀ (x2 : Int32) (x3 : Int32) (x4 : Int32) (x5 : Int32) (x6 : Int32) (x7 : Int32) (x8 : Int32) (x9 : Int32), wp_L_areDoors_B517 v0 x2 x3 x4 x5 x6 x7 x8 x9 Q → V p l e { frames := 4, cells := 0, slots := 0, locals := 93 } s m args below meth c G (va_A (wCD G a0 v0.1 v0.2.1 v0.2.2.1 v0.2.2.2.1 v0.2.2.2.2.1 v0.2.2.2.2.2.1 v0.2.2.2.2.2.2) s.heap.size) 15 0 0 (MQ below (EQ G (wCD G a0 v0.1 v0.2.1 v0.2.2.1 v0.2.2.2.1 v0.2.2.2.2.1 v0.2.2.2.2.2.1 v0.2.2.2.2.2.2) s.heap.size (PB (fun _ : Unit => wCD G a0 v0.1 v0.2.1 v0.2.2.1 v0.2.2.2.1 v0.2.2.2.2.1 v0.2.2.2.2.2.1 v0.2.2.2.2.2.2) (fun r _ => Q r))) args s 0 0 (va_A (wCD G a0 v0.1 v0.2.1 v0.2.2.1 v0.2.2.2.1 v0.2.2.2.2.1 v0.2.2.2.2.2.1 v0.2.2.2.2.2.2) s.heap.size)) (wCD G a0 v0.1 v0.2.1 v0.2.2.1 v0.2.2.2.1 v0.2.2.2.2.1 v0.2.2.2.2.2.1 v0.2.2.2.2.2.2) 517 [(0, .ref a0.1), (2, .int x2), (3, .int x3), (4, .int x4), (5, .int x5), (6, .int x6), (7, .int x7), (8, .int x8), (9, .int x9)] [] := by
    intro x2 x3 x4 x5 x6 x7 x8 x9 hw
    refine v_aload_n (pc2 := 518) S 0 dL_areDoors_517 rfl rfl rfl ?_
    refine v_callV (pc2 := 521) (As := []) (rest := []) S (c_X8_tightness l G a0 v0 _ hw) mf_X8_tightness u_517 u_518 u_519 0 8 rfl rfl rfl rfl ⟨rfl, rfl⟩ ⟨Nat.le_of_ble_eq_true rfl, Nat.le_of_ble_eq_true rfl⟩ ⟨Nat.le_of_ble_eq_true rfl, Nat.le_of_ble_eq_true rfl⟩ (Nat.le_of_ble_eq_true rfl) dL_areDoors_518 (frW _) rfl (pd (fun r5 u6 hw => ?_))
    refine v_to (wCD G a0 v0.1 v0.2.1 v0.2.2.1 v0.2.2.2.1 v0.2.2.2.2.1 v0.2.2.2.2.2.1 v0.2.2.2.2.2.2) 521 [(0, .ref a0.1), (2, .int x2), (3, .int x3), (4, .int x4), (5, .int x5), (6, .int x6), (7, .int x7), (8, .int x8), (9, .int x9)] _ [.double r5] rfl rfl rfl rfl ?_
    refine v_nmd (fun z7 ez7 => ?_)
    have hw := hw z7 ez7
    refine v_dstore (lv2 := [(0, .ref a0.1), (2, .int x2), (3, .int x3), (4, .int x4), (5, .int x5), (6, .int x6), (7, .int x7), (8, .int x8), (9, .int x9), (10, .double z7)]) (pc2 := 523) S dL_areDoors_521 (by decide) [1, 2, 3, 4, 5, 6, 7, 8, 9, 0] rfl rfl ?_
    refine v_iload (pc2 := 525) S 8 dL_areDoors_523 rfl rfl ?_
    refine v_if_eq (pc2 := 528) (tgt := 672) S dL_areDoors_525 (by decide) rfl (fun c8 => ?_) (fun c8 => ?_)
    · have hw := hw.1 c8
      refine v_iconst (v := 0) (pc2 := 673) S dL_areDoors_672 (by decide) rfl ?_
      exact v_zret S (by decide) ⟨(0 : Int32), (), rfl, (by decide), rfl, hw⟩ dL_areDoors_673
    · have hw := hw.2 c8
      refine v_iload_n (pc2 := 529) S 1 dL_areDoors_528 rfl rfl rfl ?_
      refine v_aload_n (pc2 := 530) S 0 dL_areDoors_529 rfl rfl rfl ?_
      refine v_iconst (v := 2) (pc2 := 531) S dL_areDoors_530 (by decide) rfl ?_
      refine v_callV (pc2 := 534) (As := [.int (2 : Int32)]) (rest := [.int x2]) S (c_X8_count l G a0 v0 (2 : Int32) _ hw) mf_X8_count u_398 u_399 u_400 0 8 rfl rfl rfl rfl ⟨rfl, rfl⟩ ⟨Nat.le_of_ble_eq_true rfl, Nat.le_of_ble_eq_true rfl⟩ ⟨Nat.le_of_ble_eq_true rfl, Nat.le_of_ble_eq_true rfl⟩ (Nat.le_of_ble_eq_true rfl) dL_areDoors_531 (frW _) rfl (pi (fun r9 u10 hw => ?_))
      refine v_to (wCD G a0 v0.1 v0.2.1 v0.2.2.1 v0.2.2.2.1 v0.2.2.2.2.1 v0.2.2.2.2.2.1 v0.2.2.2.2.2.2) 534 [(0, .ref a0.1), (2, .int x2), (3, .int x3), (4, .int x4), (5, .int x5), (6, .int x6), (7, .int x7), (8, .int x8), (9, .int x9), (10, .double z7)] _ [.int r9, .int x2] rfl rfl rfl rfl ?_
      refine v_icmp_ne (pc2 := 537) (tgt := 672) S dL_areDoors_534 (by decide) rfl (fun c11 => ?_) (fun c11 => ?_)
      · have hw := hw.1 c11
        refine v_iconst (v := 0) (pc2 := 673) S dL_areDoors_672 (by decide) rfl ?_
        exact v_zret S (by decide) ⟨(0 : Int32), (), rfl, (by decide), rfl, hw⟩ dL_areDoors_673
      · have hw := hw.2 c11
        refine v_iload_n (pc2 := 538) S 2 dL_areDoors_537 rfl rfl rfl ?_
        refine v_aload_n (pc2 := 539) S 0 dL_areDoors_538 rfl rfl rfl ?_
        refine v_iconst (v := 3) (pc2 := 540) S dL_areDoors_539 (by decide) rfl ?_
        refine v_callV (pc2 := 543) (As := [.int (3 : Int32)]) (rest := [.int x3]) S (c_X8_count l G a0 v0 (3 : Int32) _ hw) mf_X8_count u_398 u_399 u_400 0 8 rfl rfl rfl rfl ⟨rfl, rfl⟩ ⟨Nat.le_of_ble_eq_true rfl, Nat.le_of_ble_eq_true rfl⟩ ⟨Nat.le_of_ble_eq_true rfl, Nat.le_of_ble_eq_true rfl⟩ (Nat.le_of_ble_eq_true rfl) dL_areDoors_540 (frW _) rfl (pi (fun r12 u13 hw => ?_))
        refine v_to (wCD G a0 v0.1 v0.2.1 v0.2.2.1 v0.2.2.2.1 v0.2.2.2.2.1 v0.2.2.2.2.2.1 v0.2.2.2.2.2.2) 543 [(0, .ref a0.1), (2, .int x2), (3, .int x3), (4, .int x4), (5, .int x5), (6, .int x6), (7, .int x7), (8, .int x8), (9, .int x9), (10, .double z7)] _ [.int r12, .int x3] rfl rfl rfl rfl ?_
        refine v_icmp_ne (pc2 := 546) (tgt := 672) S dL_areDoors_543 (by decide) rfl (fun c14 => ?_) (fun c14 => ?_)
        · have hw := hw.1 c14
          refine v_iconst (v := 0) (pc2 := 673) S dL_areDoors_672 (by decide) rfl ?_
          exact v_zret S (by decide) ⟨(0 : Int32), (), rfl, (by decide), rfl, hw⟩ dL_areDoors_673
        · have hw := hw.2 c14
          refine v_iload (pc2 := 548) S 4 dL_areDoors_546 rfl rfl ?_
          refine v_iload_n (pc2 := 549) S 1 dL_areDoors_548 rfl rfl rfl ?_
          refine v_iload_n (pc2 := 550) S 2 dL_areDoors_549 rfl rfl rfl ?_
          refine v_iadd (pc2 := 551) S dL_areDoors_550 rfl ?_
          refine v_icmp_ne (pc2 := 554) (tgt := 672) S dL_areDoors_551 (by decide) rfl (fun c15 => ?_) (fun c15 => ?_)
          · have hw := hw.1 c15
            refine v_iconst (v := 0) (pc2 := 673) S dL_areDoors_672 (by decide) rfl ?_
            exact v_zret S (by decide) ⟨(0 : Int32), (), rfl, (by decide), rfl, hw⟩ dL_areDoors_673
          · have hw := hw.2 c15
            refine v_iload (pc2 := 556) S 3 dL_areDoors_554 rfl rfl ?_
            refine v_iload_n (pc2 := 557) S 1 dL_areDoors_556 rfl rfl rfl ?_
            refine v_icmp_ne (pc2 := 560) (tgt := 672) S dL_areDoors_557 (by decide) rfl (fun c16 => ?_) (fun c16 => ?_)
            · have hw := hw.1 c16
              refine v_iconst (v := 0) (pc2 := 673) S dL_areDoors_672 (by decide) rfl ?_
              exact v_zret S (by decide) ⟨(0 : Int32), (), rfl, (by decide), rfl, hw⟩ dL_areDoors_673
            · have hw := hw.2 c16
              refine v_iload (pc2 := 562) S 5 dL_areDoors_560 rfl rfl ?_
              refine v_aload_n (pc2 := 563) S 0 dL_areDoors_562 rfl rfl rfl ?_
              refine v_iconst (v := 4) (pc2 := 564) S dL_areDoors_563 (by decide) rfl ?_
              refine v_callV (pc2 := 567) (As := [.int (4 : Int32)]) (rest := [.int x6]) S (c_X8_count l G a0 v0 (4 : Int32) _ hw) mf_X8_count u_398 u_399 u_400 0 8 rfl rfl rfl rfl ⟨rfl, rfl⟩ ⟨Nat.le_of_ble_eq_true rfl, Nat.le_of_ble_eq_true rfl⟩ ⟨Nat.le_of_ble_eq_true rfl, Nat.le_of_ble_eq_true rfl⟩ (Nat.le_of_ble_eq_true rfl) dL_areDoors_564 (frW _) rfl (pi (fun r17 u18 hw => ?_))
              refine v_to (wCD G a0 v0.1 v0.2.1 v0.2.2.1 v0.2.2.2.1 v0.2.2.2.2.1 v0.2.2.2.2.2.1 v0.2.2.2.2.2.2) 567 [(0, .ref a0.1), (2, .int x2), (3, .int x3), (4, .int x4), (5, .int x5), (6, .int x6), (7, .int x7), (8, .int x8), (9, .int x9), (10, .double z7)] _ [.int r17, .int x6] rfl rfl rfl rfl ?_
              refine v_icmp_ne (pc2 := 570) (tgt := 672) S dL_areDoors_567 (by decide) rfl (fun c19 => ?_) (fun c19 => ?_)
              · have hw := hw.1 c19
                refine v_iconst (v := 0) (pc2 := 673) S dL_areDoors_672 (by decide) rfl ?_
                exact v_zret S (by decide) ⟨(0 : Int32), (), rfl, (by decide), rfl, hw⟩ dL_areDoors_673
              · have hw := hw.2 c19
                refine v_iload (pc2 := 572) S 6 dL_areDoors_570 rfl rfl ?_
                refine v_aload_n (pc2 := 573) S 0 dL_areDoors_572 rfl rfl rfl ?_
                refine v_bipush (v := 7) (pc2 := 575) S dL_areDoors_573 (by decide) rfl ?_
                refine v_callV (pc2 := 578) (As := [.int (7 : Int32)]) (rest := [.int x7]) S (c_X8_count l G a0 v0 (7 : Int32) _ hw) mf_X8_count u_398 u_399 u_400 0 8 rfl rfl rfl rfl ⟨rfl, rfl⟩ ⟨Nat.le_of_ble_eq_true rfl, Nat.le_of_ble_eq_true rfl⟩ ⟨Nat.le_of_ble_eq_true rfl, Nat.le_of_ble_eq_true rfl⟩ (Nat.le_of_ble_eq_true rfl) dL_areDoors_575 (frW _) rfl (pi (fun r20 u21 hw => ?_))
                refine v_to (wCD G a0 v0.1 v0.2.1 v0.2.2.1 v0.2.2.2.1 v0.2.2.2.2.1 v0.2.2.2.2.2.1 v0.2.2.2.2.2.2) 578 [(0, .ref a0.1), (2, .int x2), (3, .int x3), (4, .int x4), (5, .int x5), (6, .int x6), (7, .int x7), (8, .int x8), (9, .int x9), (10, .double z7)] _ [.int r20, .int x7] rfl rfl rfl rfl ?_
                refine v_icmp_ne (pc2 := 581) (tgt := 672) S dL_areDoors_578 (by decide) rfl (fun c22 => ?_) (fun c22 => ?_)
                · have hw := hw.1 c22
                  refine v_iconst (v := 0) (pc2 := 673) S dL_areDoors_672 (by decide) rfl ?_
                  exact v_zret S (by decide) ⟨(0 : Int32), (), rfl, (by decide), rfl, hw⟩ dL_areDoors_673
                · have hw := hw.2 c22
                  refine v_iload (pc2 := 583) S 7 dL_areDoors_581 rfl rfl ?_
                  refine v_aload_n (pc2 := 584) S 0 dL_areDoors_583 rfl rfl rfl ?_
                  refine v_bipush (v := 8) (pc2 := 586) S dL_areDoors_584 (by decide) rfl ?_
                  refine v_callV (pc2 := 589) (As := [.int (8 : Int32)]) (rest := [.int x8]) S (c_X8_count l G a0 v0 (8 : Int32) _ hw) mf_X8_count u_398 u_399 u_400 0 8 rfl rfl rfl rfl ⟨rfl, rfl⟩ ⟨Nat.le_of_ble_eq_true rfl, Nat.le_of_ble_eq_true rfl⟩ ⟨Nat.le_of_ble_eq_true rfl, Nat.le_of_ble_eq_true rfl⟩ (Nat.le_of_ble_eq_true rfl) dL_areDoors_586 (frW _) rfl (pi (fun r23 u24 hw => ?_))
                  refine v_to (wCD G a0 v0.1 v0.2.1 v0.2.2.1 v0.2.2.2.1 v0.2.2.2.2.1 v0.2.2.2.2.2.1 v0.2.2.2.2.2.2) 589 [(0, .ref a0.1), (2, .int x2), (3, .int x3), (4, .int x4), (5, .int x5), (6, .int x6), (7, .int x7), (8, .int x8), (9, .int x9), (10, .double z7)] _ [.int r23, .int x8] rfl rfl rfl rfl ?_
                  refine v_aload_n (pc2 := 590) S 0 dL_areDoors_589 rfl rfl rfl ?_
                  refine v_bipush (v := 9) (pc2 := 592) S dL_areDoors_590 (by decide) rfl ?_
                  refine v_callV (pc2 := 595) (As := [.int (9 : Int32)]) (rest := [.int r23, .int x8]) S (c_X8_count l G a0 v0 (9 : Int32) _ hw) mf_X8_count u_398 u_399 u_400 0 8 rfl rfl rfl rfl ⟨rfl, rfl⟩ ⟨Nat.le_of_ble_eq_true rfl, Nat.le_of_ble_eq_true rfl⟩ ⟨Nat.le_of_ble_eq_true rfl, Nat.le_of_ble_eq_true rfl⟩ (Nat.le_of_ble_eq_true rfl) dL_areDoors_592 (frW _) rfl (pi (fun r25 u26 hw => ?_))
                  refine v_to (wCD G a0 v0.1 v0.2.1 v0.2.2.1 v0.2.2.2.1 v0.2.2.2.2.1 v0.2.2.2.2.2.1 v0.2.2.2.2.2.2) 595 [(0, .ref a0.1), (2, .int x2), (3, .int x3), (4, .int x4), (5, .int x5), (6, .int x6), (7, .int x7), (8, .int x8), (9, .int x9), (10, .double z7)] _ [.int r25, .int r23, .int x8] rfl rfl rfl rfl ?_
                  refine v_iadd (pc2 := 596) S dL_areDoors_595 rfl ?_
                  refine v_aload_n (pc2 := 597) S 0 dL_areDoors_596 rfl rfl rfl ?_
                  refine v_bipush (v := 10) (pc2 := 599) S dL_areDoors_597 (by decide) rfl ?_
                  refine v_callV (pc2 := 602) (As := [.int (10 : Int32)]) (rest := [.int (r23 + r25), .int x8]) S (c_X8_count l G a0 v0 (10 : Int32) _ hw) mf_X8_count u_398 u_399 u_400 0 8 rfl rfl rfl rfl ⟨rfl, rfl⟩ ⟨Nat.le_of_ble_eq_true rfl, Nat.le_of_ble_eq_true rfl⟩ ⟨Nat.le_of_ble_eq_true rfl, Nat.le_of_ble_eq_true rfl⟩ (Nat.le_of_ble_eq_true rfl) dL_areDoors_599 (frW _) rfl (pi (fun r27 u28 hw => ?_))
                  refine v_to (wCD G a0 v0.1 v0.2.1 v0.2.2.1 v0.2.2.2.1 v0.2.2.2.2.1 v0.2.2.2.2.2.1 v0.2.2.2.2.2.2) 602 [(0, .ref a0.1), (2, .int x2), (3, .int x3), (4, .int x4), (5, .int x5), (6, .int x6), (7, .int x7), (8, .int x8), (9, .int x9), (10, .double z7)] _ [.int r27, .int (r23 + r25), .int x8] rfl rfl rfl rfl ?_
                  refine v_iadd (pc2 := 603) S dL_areDoors_602 rfl ?_
                  refine v_icmp_ne (pc2 := 606) (tgt := 672) S dL_areDoors_603 (by decide) rfl (fun c29 => ?_) (fun c29 => ?_)
                  · have hw := hw.1 c29
                    refine v_iconst (v := 0) (pc2 := 673) S dL_areDoors_672 (by decide) rfl ?_
                    exact v_zret S (by decide) ⟨(0 : Int32), (), rfl, (by decide), rfl, hw⟩ dL_areDoors_673
                  · have hw := hw.2 c29
                    refine v_iload (pc2 := 608) S 6 dL_areDoors_606 rfl rfl ?_
                    refine v_iload (pc2 := 610) S 7 dL_areDoors_608 rfl rfl ?_
                    refine v_isub (pc2 := 611) S dL_areDoors_610 rfl ?_
                    refine v_aload_n (pc2 := 612) S 0 dL_areDoors_611 rfl rfl rfl ?_
                    refine v_iconst (v := 1) (pc2 := 613) S dL_areDoors_612 (by decide) rfl ?_
                    refine v_callV (pc2 := 616) (As := [.int (1 : Int32)]) (rest := [.int (x7 - x8)]) S (c_X8_count l G a0 v0 (1 : Int32) _ hw) mf_X8_count u_398 u_399 u_400 0 8 rfl rfl rfl rfl ⟨rfl, rfl⟩ ⟨Nat.le_of_ble_eq_true rfl, Nat.le_of_ble_eq_true rfl⟩ ⟨Nat.le_of_ble_eq_true rfl, Nat.le_of_ble_eq_true rfl⟩ (Nat.le_of_ble_eq_true rfl) dL_areDoors_613 (frW _) rfl (pi (fun r30 u31 hw => ?_))
                    refine v_to (wCD G a0 v0.1 v0.2.1 v0.2.2.1 v0.2.2.2.1 v0.2.2.2.2.1 v0.2.2.2.2.2.1 v0.2.2.2.2.2.2) 616 [(0, .ref a0.1), (2, .int x2), (3, .int x3), (4, .int x4), (5, .int x5), (6, .int x6), (7, .int x7), (8, .int x8), (9, .int x9), (10, .double z7)] _ [.int r30, .int (x7 - x8)] rfl rfl rfl rfl ?_
                    refine v_icmp_ne (pc2 := 619) (tgt := 672) S dL_areDoors_616 (by decide) rfl (fun c32 => ?_) (fun c32 => ?_)
                    · have hw := hw.1 c32
                      refine v_iconst (v := 0) (pc2 := 673) S dL_areDoors_672 (by decide) rfl ?_
                      exact v_zret S (by decide) ⟨(0 : Int32), (), rfl, (by decide), rfl, hw⟩ dL_areDoors_673
                    · have hw := hw.2 c32
                      refine v_dload (pc2 := 621) S 9 dL_areDoors_619 rfl rfl ?_
                      refine v_dconst0 (pc2 := 622) S dL_areDoors_621 rfl ?_
                      refine v_dcmp (pc2 := 623) S dL_areDoors_622 rfl ?_
                      refine v_if_lt (pc2 := 626) (tgt := 672) S dL_areDoors_623 (by decide) rfl (fun c33 => ?_) (fun c33 => ?_)
                      · have hw := hw.1 c33
                        refine v_iconst (v := 0) (pc2 := 673) S dL_areDoors_672 (by decide) rfl ?_
                        exact v_zret S (by decide) ⟨(0 : Int32), (), rfl, (by decide), rfl, hw⟩ dL_areDoors_673
                      · have hw := hw.2 c33
                        refine v_dload (pc2 := 628) S 9 dL_areDoors_626 rfl rfl ?_
                        refine v_dconst1 (pc2 := 629) S dL_areDoors_628 rfl ?_
                        refine v_dcmp (pc2 := 630) S dL_areDoors_629 rfl ?_
                        refine v_if_gt (pc2 := 633) (tgt := 672) S dL_areDoors_630 (by decide) rfl (fun c34 => ?_) (fun c34 => ?_)
                        · have hw := hw.1 c34
                          refine v_iconst (v := 0) (pc2 := 673) S dL_areDoors_672 (by decide) rfl ?_
                          exact v_zret S (by decide) ⟨(0 : Int32), (), rfl, (by decide), rfl, hw⟩ dL_areDoors_673
                        · have hw := hw.2 c34
                          refine v_dload (pc2 := 635) S 9 dL_areDoors_633 rfl rfl ?_
                          refine v_dconst0 (pc2 := 636) S dL_areDoors_635 rfl ?_
                          refine v_dcmp (pc2 := 637) S dL_areDoors_636 rfl ?_
                          refine v_if_le (pc2 := 640) (tgt := 644) S dL_areDoors_637 (by decide) rfl (fun c35 => ?_) (fun c35 => ?_)
                          · have hw := hw.1 c35
                            refine v_iconst (v := 0) (pc2 := 645) S dL_areDoors_644 (by decide) rfl ?_
                            refine v_lv [(0, .ref a0.1), (2, .int x2)] [0, 1] rfl ?_
                            exact B645 x2 (0 : Int32) hw
                          · have hw := hw.2 c35
                            refine v_iconst (v := 1) (pc2 := 641) S dL_areDoors_640 (by decide) rfl ?_
                            refine v_goto (tgt := 645) S dL_areDoors_641 (by decide) ?_
                            refine v_lv [(0, .ref a0.1), (2, .int x2)] [0, 1] rfl ?_
                            exact B645 x2 (1 : Int32) hw
  have B489 : ∀ (x1 : Int32) (x2 : Int32) (x3 : Int32) (x4 : Int32) (x5 : Int32) (x6 : Int32) (x7 : Int32) (x8 : Int32) (x10 : Int32) (x13 : Int32) (K58 : Int32 → Int32 → Int32 → Int32 → Int32 → Int32 → Int32 → Int32 → Int32 → Prop) (hK58 : ∀ (y0 : Int32) (y1 : Int32) (y2 : Int32) (y3 : Int32) (y4 : Int32) (y5 : Int32) (y6 : Int32) (y7 : Int32) (y8 : Int32), K58 y0 y1 y2 y3 y4 y5 y6 y7 y8 → V p l e { frames := 4, cells := 0, slots := 0, locals := 93 } s m args below meth c G (va_A (wCD G a0 v0.1 v0.2.1 v0.2.2.1 v0.2.2.2.1 v0.2.2.2.2.1 v0.2.2.2.2.2.1 v0.2.2.2.2.2.2) s.heap.size) 15 0 0 (MQ below (EQ G (wCD G a0 v0.1 v0.2.1 v0.2.2.1 v0.2.2.2.1 v0.2.2.2.2.1 v0.2.2.2.2.2.1 v0.2.2.2.2.2.2) s.heap.size (PB (fun _ : Unit => wCD G a0 v0.1 v0.2.1 v0.2.2.1 v0.2.2.2.1 v0.2.2.2.2.1 v0.2.2.2.2.2.1 v0.2.2.2.2.2.2) (fun r _ => Q r))) args s 0 0 (va_A (wCD G a0 v0.1 v0.2.1 v0.2.2.1 v0.2.2.2.1 v0.2.2.2.2.1 v0.2.2.2.2.2.1 v0.2.2.2.2.2.2) s.heap.size)) (wCD G a0 v0.1 v0.2.1 v0.2.2.1 v0.2.2.2.1 v0.2.2.2.2.1 v0.2.2.2.2.2.1 v0.2.2.2.2.2.2) 58 [(0, .ref a0.1), (1, .int x1), (2, .int y0), (3, .int y1), (4, .int y2), (5, .int y3), (6, .int y4), (7, .int y5), (8, .int y6), (9, .int y7), (10, .int y8)] []), wp_L_areDoors_B489 v0 x1 x2 x3 x4 x5 x6 x7 x8 x10 x13 Q K58 → V p l e { frames := 4, cells := 0, slots := 0, locals := 93 } s m args below meth c G (va_A (wCD G a0 v0.1 v0.2.1 v0.2.2.1 v0.2.2.2.1 v0.2.2.2.2.1 v0.2.2.2.2.2.1 v0.2.2.2.2.2.2) s.heap.size) 15 0 0 (MQ below (EQ G (wCD G a0 v0.1 v0.2.1 v0.2.2.1 v0.2.2.2.1 v0.2.2.2.2.1 v0.2.2.2.2.2.1 v0.2.2.2.2.2.2) s.heap.size (PB (fun _ : Unit => wCD G a0 v0.1 v0.2.1 v0.2.2.1 v0.2.2.2.1 v0.2.2.2.2.1 v0.2.2.2.2.2.1 v0.2.2.2.2.2.2) (fun r _ => Q r))) args s 0 0 (va_A (wCD G a0 v0.1 v0.2.1 v0.2.2.1 v0.2.2.2.1 v0.2.2.2.2.1 v0.2.2.2.2.2.1 v0.2.2.2.2.2.2) s.heap.size)) (wCD G a0 v0.1 v0.2.1 v0.2.2.1 v0.2.2.2.1 v0.2.2.2.2.1 v0.2.2.2.2.2.1 v0.2.2.2.2.2.2) 489 [(0, .ref a0.1), (1, .int x1), (2, .int x2), (3, .int x3), (4, .int x4), (5, .int x5), (6, .int x6), (7, .int x7), (8, .int x8), (10, .int x10), (13, .int x13)] [] := by
    intro x1 x2 x3 x4 x5 x6 x7 x8 x10 x13 K58 hK58 hw
    refine v_iload (pc2 := 491) S 10 dL_areDoors_489 rfl rfl ?_
    refine v_if_lt (pc2 := 494) (tgt := 504) S dL_areDoors_491 (by decide) rfl (fun c137 => ?_) (fun c137 => ?_)
    · have hw := hw.1 c137
      refine v_iconst (v := 1) (pc2 := 505) S dL_areDoors_504 (by decide) rfl ?_
      refine v_goto (tgt := 509) S dL_areDoors_505 (by decide) ?_
      refine v_istore (lv2 := [(0, .ref a0.1), (1, .int x1), (2, .int x2), (3, .int x3), (4, .int x4), (5, .int x5), (6, .int x6), (7, .int x7), (8, .int x8), (9, .int (1 : Int32)), (10, .int x10), (13, .int x13)]) (pc2 := 511) S dL_areDoors_509 (by decide) [1, 2, 3, 4, 5, 6, 7, 8, 9, 0, 10, 11] rfl rfl ?_
      obtain ⟨z138, ez138⟩ : ∃ y : Int32, y = x10 + (1 : Int32) := ⟨_, rfl⟩
      have hw := hw z138 ez138
      refine v_iinc (v := z138) (lv2 := [(0, .ref a0.1), (1, .int x1), (2, .int x2), (3, .int x3), (4, .int x4), (5, .int x5), (6, .int x6), (7, .int x7), (8, .int x8), (9, .int (1 : Int32)), (10, .int z138), (13, .int x13)]) (pc2 := 514) S 10 dL_areDoors_511 rfl (by rw [ez138]; rfl) (by decide) [1, 2, 3, 4, 5, 6, 7, 8, 9, 10, 0, 11] rfl rfl ?_
      refine v_goto (tgt := 58) S dL_areDoors_514 (by decide) ?_
      refine v_lv [(0, .ref a0.1), (1, .int x1), (2, .int x2), (3, .int x3), (4, .int x4), (5, .int x5), (6, .int x6), (7, .int x7), (8, .int x8), (9, .int (1 : Int32)), (10, .int z138)] [0, 1, 2, 3, 4, 5, 6, 7, 8, 9, 10] rfl ?_
      exact hK58 x2 x3 x4 x5 x6 x7 x8 (1 : Int32) z138 hw
    · have hw := hw.2 c137
      refine v_aload_n (pc2 := 495) S 0 dL_areDoors_494 rfl rfl rfl ?_
      refine v_iload (pc2 := 497) S 10 dL_areDoors_495 rfl rfl ?_
      refine v_iconst (v := 0) (pc2 := 498) S dL_areDoors_497 (by decide) rfl ?_
      refine v_callV (pc2 := 501) (As := [.int x13, .int (0 : Int32)]) (rest := []) S (c_X8_door l G a0 v0 x13 (0 : Int32) _ hw) mf_X8_door u_484 u_485 u_486 0 8 rfl rfl rfl rfl ⟨rfl, rfl⟩ ⟨Nat.le_of_ble_eq_true rfl, Nat.le_of_ble_eq_true rfl⟩ ⟨Nat.le_of_ble_eq_true rfl, Nat.le_of_ble_eq_true rfl⟩ (Nat.le_of_ble_eq_true rfl) dL_areDoors_498 (frW _) rfl (pi (fun r139 u140 hw => ?_))
      refine v_to (wCD G a0 v0.1 v0.2.1 v0.2.2.1 v0.2.2.2.1 v0.2.2.2.2.1 v0.2.2.2.2.2.1 v0.2.2.2.2.2.2) 501 [(0, .ref a0.1), (1, .int x1), (2, .int x2), (3, .int x3), (4, .int x4), (5, .int x5), (6, .int x6), (7, .int x7), (8, .int x8), (10, .int x10), (13, .int x13)] _ [.int r139] rfl rfl rfl rfl ?_
      refine v_if_ne (pc2 := 504) (tgt := 508) S dL_areDoors_501 (by decide) rfl (fun c141 => ?_) (fun c141 => ?_)
      · have hw := hw.1 c141
        refine v_iconst (v := 0) (pc2 := 509) S dL_areDoors_508 (by decide) rfl ?_
        refine v_istore (lv2 := [(0, .ref a0.1), (1, .int x1), (2, .int x2), (3, .int x3), (4, .int x4), (5, .int x5), (6, .int x6), (7, .int x7), (8, .int x8), (9, .int (0 : Int32)), (10, .int x10), (13, .int x13)]) (pc2 := 511) S dL_areDoors_509 (by decide) [1, 2, 3, 4, 5, 6, 7, 8, 9, 0, 10, 11] rfl rfl ?_
        obtain ⟨z142, ez142⟩ : ∃ y : Int32, y = x10 + (1 : Int32) := ⟨_, rfl⟩
        have hw := hw z142 ez142
        refine v_iinc (v := z142) (lv2 := [(0, .ref a0.1), (1, .int x1), (2, .int x2), (3, .int x3), (4, .int x4), (5, .int x5), (6, .int x6), (7, .int x7), (8, .int x8), (9, .int (0 : Int32)), (10, .int z142), (13, .int x13)]) (pc2 := 514) S 10 dL_areDoors_511 rfl (by rw [ez142]; rfl) (by decide) [1, 2, 3, 4, 5, 6, 7, 8, 9, 10, 0, 11] rfl rfl ?_
        refine v_goto (tgt := 58) S dL_areDoors_514 (by decide) ?_
        refine v_lv [(0, .ref a0.1), (1, .int x1), (2, .int x2), (3, .int x3), (4, .int x4), (5, .int x5), (6, .int x6), (7, .int x7), (8, .int x8), (9, .int (0 : Int32)), (10, .int z142)] [0, 1, 2, 3, 4, 5, 6, 7, 8, 9, 10] rfl ?_
        exact hK58 x2 x3 x4 x5 x6 x7 x8 (0 : Int32) z142 hw
      · have hw := hw.2 c141
        refine v_iconst (v := 1) (pc2 := 505) S dL_areDoors_504 (by decide) rfl ?_
        refine v_goto (tgt := 509) S dL_areDoors_505 (by decide) ?_
        refine v_istore (lv2 := [(0, .ref a0.1), (1, .int x1), (2, .int x2), (3, .int x3), (4, .int x4), (5, .int x5), (6, .int x6), (7, .int x7), (8, .int x8), (9, .int (1 : Int32)), (10, .int x10), (13, .int x13)]) (pc2 := 511) S dL_areDoors_509 (by decide) [1, 2, 3, 4, 5, 6, 7, 8, 9, 0, 10, 11] rfl rfl ?_
        obtain ⟨z143, ez143⟩ : ∃ y : Int32, y = x10 + (1 : Int32) := ⟨_, rfl⟩
        have hw := hw z143 ez143
        refine v_iinc (v := z143) (lv2 := [(0, .ref a0.1), (1, .int x1), (2, .int x2), (3, .int x3), (4, .int x4), (5, .int x5), (6, .int x6), (7, .int x7), (8, .int x8), (9, .int (1 : Int32)), (10, .int z143), (13, .int x13)]) (pc2 := 514) S 10 dL_areDoors_511 rfl (by rw [ez143]; rfl) (by decide) [1, 2, 3, 4, 5, 6, 7, 8, 9, 10, 0, 11] rfl rfl ?_
        refine v_goto (tgt := 58) S dL_areDoors_514 (by decide) ?_
        refine v_lv [(0, .ref a0.1), (1, .int x1), (2, .int x2), (3, .int x3), (4, .int x4), (5, .int x5), (6, .int x6), (7, .int x7), (8, .int x8), (9, .int (1 : Int32)), (10, .int z143)] [0, 1, 2, 3, 4, 5, 6, 7, 8, 9, 10] rfl ?_
        exact hK58 x2 x3 x4 x5 x6 x7 x8 (1 : Int32) z143 hw
  have B466 : ∀ (x1 : Int32) (x2 : Int32) (x3 : Int32) (x4 : Int32) (x5 : Int32) (x6 : Int32) (x7 : Int32) (x8 : Int32) (x10 : Int32) (x11 : Int32) (x12 : Int32) (x13 : Int32) (t0 : Int32) (t1 : Int32) (K58 : Int32 → Int32 → Int32 → Int32 → Int32 → Int32 → Int32 → Int32 → Int32 → Prop) (hK58 : ∀ (y0 : Int32) (y1 : Int32) (y2 : Int32) (y3 : Int32) (y4 : Int32) (y5 : Int32) (y6 : Int32) (y7 : Int32) (y8 : Int32), K58 y0 y1 y2 y3 y4 y5 y6 y7 y8 → V p l e { frames := 4, cells := 0, slots := 0, locals := 93 } s m args below meth c G (va_A (wCD G a0 v0.1 v0.2.1 v0.2.2.1 v0.2.2.2.1 v0.2.2.2.2.1 v0.2.2.2.2.2.1 v0.2.2.2.2.2.2) s.heap.size) 15 0 0 (MQ below (EQ G (wCD G a0 v0.1 v0.2.1 v0.2.2.1 v0.2.2.2.1 v0.2.2.2.2.1 v0.2.2.2.2.2.1 v0.2.2.2.2.2.2) s.heap.size (PB (fun _ : Unit => wCD G a0 v0.1 v0.2.1 v0.2.2.1 v0.2.2.2.1 v0.2.2.2.2.1 v0.2.2.2.2.2.1 v0.2.2.2.2.2.2) (fun r _ => Q r))) args s 0 0 (va_A (wCD G a0 v0.1 v0.2.1 v0.2.2.1 v0.2.2.2.1 v0.2.2.2.2.1 v0.2.2.2.2.2.1 v0.2.2.2.2.2.2) s.heap.size)) (wCD G a0 v0.1 v0.2.1 v0.2.2.1 v0.2.2.2.1 v0.2.2.2.2.1 v0.2.2.2.2.2.1 v0.2.2.2.2.2.2) 58 [(0, .ref a0.1), (1, .int x1), (2, .int y0), (3, .int y1), (4, .int y2), (5, .int y3), (6, .int y4), (7, .int y5), (8, .int y6), (9, .int y7), (10, .int y8)] []), wp_L_areDoors_B466 v0 x1 x2 x3 x4 x5 x6 x7 x8 x10 x11 x12 x13 t0 t1 Q K58 → V p l e { frames := 4, cells := 0, slots := 0, locals := 93 } s m args below meth c G (va_A (wCD G a0 v0.1 v0.2.1 v0.2.2.1 v0.2.2.2.1 v0.2.2.2.2.1 v0.2.2.2.2.2.1 v0.2.2.2.2.2.2) s.heap.size) 15 0 0 (MQ below (EQ G (wCD G a0 v0.1 v0.2.1 v0.2.2.1 v0.2.2.2.1 v0.2.2.2.2.1 v0.2.2.2.2.2.1 v0.2.2.2.2.2.2) s.heap.size (PB (fun _ : Unit => wCD G a0 v0.1 v0.2.1 v0.2.2.1 v0.2.2.2.1 v0.2.2.2.2.1 v0.2.2.2.2.2.1 v0.2.2.2.2.2.2) (fun r _ => Q r))) args s 0 0 (va_A (wCD G a0 v0.1 v0.2.1 v0.2.2.1 v0.2.2.2.1 v0.2.2.2.2.1 v0.2.2.2.2.2.1 v0.2.2.2.2.2.2) s.heap.size)) (wCD G a0 v0.1 v0.2.1 v0.2.2.1 v0.2.2.2.1 v0.2.2.2.2.1 v0.2.2.2.2.2.1 v0.2.2.2.2.2.2) 466 [(0, .ref a0.1), (1, .int x1), (2, .int x2), (3, .int x3), (4, .int x4), (5, .int x5), (6, .int x6), (7, .int x7), (8, .int x8), (10, .int x10), (11, .int x11), (12, .int x12), (13, .int x13)] [.int t1, .int t0] := by
    intro x1 x2 x3 x4 x5 x6 x7 x8 x10 x11 x12 x13 t0 t1 K58 hK58 hw
    refine v_icmp_ne (pc2 := 469) (tgt := 508) S dL_areDoors_466 (by decide) rfl (fun c132 => ?_) (fun c132 => ?_)
    · have hw := hw.1 c132
      refine v_iconst (v := 0) (pc2 := 509) S dL_areDoors_508 (by decide) rfl ?_
      refine v_istore (lv2 := [(0, .ref a0.1), (1, .int x1), (2, .int x2), (3, .int x3), (4, .int x4), (5, .int x5), (6, .int x6), (7, .int x7), (8, .int x8), (9, .int (0 : Int32)), (10, .int x10), (11, .int x11), (12, .int x12), (13, .int x13)]) (pc2 := 511) S dL_areDoors_509 (by decide) [1, 2, 3, 4, 5, 6, 7, 8, 9, 0, 10, 11, 12, 13] rfl rfl ?_
      obtain ⟨z133, ez133⟩ : ∃ y : Int32, y = x10 + (1 : Int32) := ⟨_, rfl⟩
      have hw := hw z133 ez133
      refine v_iinc (v := z133) (lv2 := [(0, .ref a0.1), (1, .int x1), (2, .int x2), (3, .int x3), (4, .int x4), (5, .int x5), (6, .int x6), (7, .int x7), (8, .int x8), (9, .int (0 : Int32)), (10, .int z133), (11, .int x11), (12, .int x12), (13, .int x13)]) (pc2 := 514) S 10 dL_areDoors_511 rfl (by rw [ez133]; rfl) (by decide) [1, 2, 3, 4, 5, 6, 7, 8, 9, 10, 0, 11, 12, 13] rfl rfl ?_
      refine v_goto (tgt := 58) S dL_areDoors_514 (by decide) ?_
      refine v_lv [(0, .ref a0.1), (1, .int x1), (2, .int x2), (3, .int x3), (4, .int x4), (5, .int x5), (6, .int x6), (7, .int x7), (8, .int x8), (9, .int (0 : Int32)), (10, .int z133)] [0, 1, 2, 3, 4, 5, 6, 7, 8, 9, 10] rfl ?_
      exact hK58 x2 x3 x4 x5 x6 x7 x8 (0 : Int32) z133 hw
    · have hw := hw.2 c132
      refine v_iload (pc2 := 471) S 10 dL_areDoors_469 rfl rfl ?_
      refine v_if_eq (pc2 := 474) (tgt := 504) S dL_areDoors_471 (by decide) rfl (fun c134 => ?_) (fun c134 => ?_)
      · have hw := hw.1 c134
        refine v_iconst (v := 1) (pc2 := 505) S dL_areDoors_504 (by decide) rfl ?_
        refine v_goto (tgt := 509) S dL_areDoors_505 (by decide) ?_
        refine v_istore (lv2 := [(0, .ref a0.1), (1, .int x1), (2, .int x2), (3, .int x3), (4, .int x4), (5, .int x5), (6, .int x6), (7, .int x7), (8, .int x8), (9, .int (1 : Int32)), (10, .int x10), (11, .int x11), (12, .int x12), (13, .int x13)]) (pc2 := 511) S dL_areDoors_509 (by decide) [1, 2, 3, 4, 5, 6, 7, 8, 9, 0, 10, 11, 12, 13] rfl rfl ?_
        obtain ⟨z135, ez135⟩ : ∃ y : Int32, y = x10 + (1 : Int32) := ⟨_, rfl⟩
        have hw := hw z135 ez135
        refine v_iinc (v := z135) (lv2 := [(0, .ref a0.1), (1, .int x1), (2, .int x2), (3, .int x3), (4, .int x4), (5, .int x5), (6, .int x6), (7, .int x7), (8, .int x8), (9, .int (1 : Int32)), (10, .int z135), (11, .int x11), (12, .int x12), (13, .int x13)]) (pc2 := 514) S 10 dL_areDoors_511 rfl (by rw [ez135]; rfl) (by decide) [1, 2, 3, 4, 5, 6, 7, 8, 9, 10, 0, 11, 12, 13] rfl rfl ?_
        refine v_goto (tgt := 58) S dL_areDoors_514 (by decide) ?_
        refine v_lv [(0, .ref a0.1), (1, .int x1), (2, .int x2), (3, .int x3), (4, .int x4), (5, .int x5), (6, .int x6), (7, .int x7), (8, .int x8), (9, .int (1 : Int32)), (10, .int z135)] [0, 1, 2, 3, 4, 5, 6, 7, 8, 9, 10] rfl ?_
        exact hK58 x2 x3 x4 x5 x6 x7 x8 (1 : Int32) z135 hw
      · have hw := hw.2 c134
        refine v_iload (pc2 := 476) S 11 dL_areDoors_474 rfl rfl ?_
        refine v_if_lt (pc2 := 479) (tgt := 489) S dL_areDoors_476 (by decide) rfl (fun c136 => ?_) (fun c136 => ?_)
        · have hw := hw.1 c136
          refine v_lv [(0, .ref a0.1), (1, .int x1), (2, .int x2), (3, .int x3), (4, .int x4), (5, .int x5), (6, .int x6), (7, .int x7), (8, .int x8), (10, .int x10), (13, .int x13)] [0, 1, 2, 3, 4, 5, 6, 7, 8, 9, 12] rfl ?_
          exact B489 x1 x2 x3 x4 x5 x6 x7 x8 x10 x13 K58 hK58 hw
        · have hw := hw.2 c136
          refine v_aload_n (pc2 := 480) S 0 dL_areDoors_479 rfl rfl rfl ?_
          refine v_iload (pc2 := 482) S 11 dL_areDoors_480 rfl rfl ?_
          refine v_iconst (v := 0) (pc2 := 483) S dL_areDoors_482 (by decide) rfl ?_
          refine v_callV (pc2 := 486) (As := [.int x12, .int (0 : Int32)]) (rest := []) S (c_X8_door l G a0 v0 x12 (0 : Int32) _ hw) mf_X8_door u_484 u_485 u_486 0 8 rfl rfl rfl rfl ⟨rfl, rfl⟩ ⟨Nat.le_of_ble_eq_true rfl, Nat.le_of_ble_eq_true rfl⟩ ⟨Nat.le_of_ble_eq_true rfl, Nat.le_of_ble_eq_true rfl⟩ (Nat.le_of_ble_eq_true rfl) dL_areDoors_483 (frW _) rfl (pi (fun r144 u145 hw => ?_))
          refine v_to (wCD G a0 v0.1 v0.2.1 v0.2.2.1 v0.2.2.2.1 v0.2.2.2.2.1 v0.2.2.2.2.2.1 v0.2.2.2.2.2.2) 486 [(0, .ref a0.1), (1, .int x1), (2, .int x2), (3, .int x3), (4, .int x4), (5, .int x5), (6, .int x6), (7, .int x7), (8, .int x8), (10, .int x10), (11, .int x11), (12, .int x12), (13, .int x13)] _ [.int r144] rfl rfl rfl rfl ?_
          refine v_if_ne (pc2 := 489) (tgt := 508) S dL_areDoors_486 (by decide) rfl (fun c146 => ?_) (fun c146 => ?_)
          · have hw := hw.1 c146
            refine v_iconst (v := 0) (pc2 := 509) S dL_areDoors_508 (by decide) rfl ?_
            refine v_istore (lv2 := [(0, .ref a0.1), (1, .int x1), (2, .int x2), (3, .int x3), (4, .int x4), (5, .int x5), (6, .int x6), (7, .int x7), (8, .int x8), (9, .int (0 : Int32)), (10, .int x10), (11, .int x11), (12, .int x12), (13, .int x13)]) (pc2 := 511) S dL_areDoors_509 (by decide) [1, 2, 3, 4, 5, 6, 7, 8, 9, 0, 10, 11, 12, 13] rfl rfl ?_
            obtain ⟨z147, ez147⟩ : ∃ y : Int32, y = x10 + (1 : Int32) := ⟨_, rfl⟩
            have hw := hw z147 ez147
            refine v_iinc (v := z147) (lv2 := [(0, .ref a0.1), (1, .int x1), (2, .int x2), (3, .int x3), (4, .int x4), (5, .int x5), (6, .int x6), (7, .int x7), (8, .int x8), (9, .int (0 : Int32)), (10, .int z147), (11, .int x11), (12, .int x12), (13, .int x13)]) (pc2 := 514) S 10 dL_areDoors_511 rfl (by rw [ez147]; rfl) (by decide) [1, 2, 3, 4, 5, 6, 7, 8, 9, 10, 0, 11, 12, 13] rfl rfl ?_
            refine v_goto (tgt := 58) S dL_areDoors_514 (by decide) ?_
            refine v_lv [(0, .ref a0.1), (1, .int x1), (2, .int x2), (3, .int x3), (4, .int x4), (5, .int x5), (6, .int x6), (7, .int x7), (8, .int x8), (9, .int (0 : Int32)), (10, .int z147)] [0, 1, 2, 3, 4, 5, 6, 7, 8, 9, 10] rfl ?_
            exact hK58 x2 x3 x4 x5 x6 x7 x8 (0 : Int32) z147 hw
          · have hw := hw.2 c146
            refine v_lv [(0, .ref a0.1), (1, .int x1), (2, .int x2), (3, .int x3), (4, .int x4), (5, .int x5), (6, .int x6), (7, .int x7), (8, .int x8), (10, .int x10), (13, .int x13)] [0, 1, 2, 3, 4, 5, 6, 7, 8, 9, 12] rfl ?_
            exact B489 x1 x2 x3 x4 x5 x6 x7 x8 x10 x13 K58 hK58 hw
  have B431 : ∀ (x1 : Int32) (x2 : Int32) (x3 : Int32) (x4 : Int32) (x5 : Int32) (x6 : Int32) (x7 : Int32) (x8 : Int32) (x10 : Int32) (x11 : Int32) (x12 : Int32) (x13 : Int32) (t0 : Int32) (t1 : Int32) (t2 : Int32) (K58 : Int32 → Int32 → Int32 → Int32 → Int32 → Int32 → Int32 → Int32 → Int32 → Prop) (hK58 : ∀ (y0 : Int32) (y1 : Int32) (y2 : Int32) (y3 : Int32) (y4 : Int32) (y5 : Int32) (y6 : Int32) (y7 : Int32) (y8 : Int32), K58 y0 y1 y2 y3 y4 y5 y6 y7 y8 → V p l e { frames := 4, cells := 0, slots := 0, locals := 93 } s m args below meth c G (va_A (wCD G a0 v0.1 v0.2.1 v0.2.2.1 v0.2.2.2.1 v0.2.2.2.2.1 v0.2.2.2.2.2.1 v0.2.2.2.2.2.2) s.heap.size) 15 0 0 (MQ below (EQ G (wCD G a0 v0.1 v0.2.1 v0.2.2.1 v0.2.2.2.1 v0.2.2.2.2.1 v0.2.2.2.2.2.1 v0.2.2.2.2.2.2) s.heap.size (PB (fun _ : Unit => wCD G a0 v0.1 v0.2.1 v0.2.2.1 v0.2.2.2.1 v0.2.2.2.2.1 v0.2.2.2.2.2.1 v0.2.2.2.2.2.2) (fun r _ => Q r))) args s 0 0 (va_A (wCD G a0 v0.1 v0.2.1 v0.2.2.1 v0.2.2.2.1 v0.2.2.2.2.1 v0.2.2.2.2.2.1 v0.2.2.2.2.2.2) s.heap.size)) (wCD G a0 v0.1 v0.2.1 v0.2.2.1 v0.2.2.2.1 v0.2.2.2.2.1 v0.2.2.2.2.2.1 v0.2.2.2.2.2.2) 58 [(0, .ref a0.1), (1, .int x1), (2, .int y0), (3, .int y1), (4, .int y2), (5, .int y3), (6, .int y4), (7, .int y5), (8, .int y6), (9, .int y7), (10, .int y8)] []), wp_L_areDoors_B431 v0 x1 x2 x3 x4 x5 x6 x7 x8 x10 x11 x12 x13 t0 t1 t2 Q K58 → V p l e { frames := 4, cells := 0, slots := 0, locals := 93 } s m args below meth c G (va_A (wCD G a0 v0.1 v0.2.1 v0.2.2.1 v0.2.2.2.1 v0.2.2.2.2.1 v0.2.2.2.2.2.1 v0.2.2.2.2.2.2) s.heap.size) 15 0 0 (MQ below (EQ G (wCD G a0 v0.1 v0.2.1 v0.2.2.1 v0.2.2.2.1 v0.2.2.2.2.1 v0.2.2.2.2.2.1 v0.2.2.2.2.2.2) s.heap.size (PB (fun _ : Unit => wCD G a0 v0.1 v0.2.1 v0.2.2.1 v0.2.2.2.1 v0.2.2.2.2.1 v0.2.2.2.2.2.1 v0.2.2.2.2.2.2) (fun r _ => Q r))) args s 0 0 (va_A (wCD G a0 v0.1 v0.2.1 v0.2.2.1 v0.2.2.2.1 v0.2.2.2.2.1 v0.2.2.2.2.2.1 v0.2.2.2.2.2.2) s.heap.size)) (wCD G a0 v0.1 v0.2.1 v0.2.2.1 v0.2.2.2.1 v0.2.2.2.2.1 v0.2.2.2.2.2.1 v0.2.2.2.2.2.2) 431 [(0, .ref a0.1), (1, .int x1), (2, .int x2), (3, .int x3), (4, .int x4), (5, .int x5), (6, .int x6), (7, .int x7), (8, .int x8), (10, .int x10), (11, .int x11), (12, .int x12), (13, .int x13)] [.int t2, .int t1, .int t0] := by
    intro x1 x2 x3 x4 x5 x6 x7 x8 x10 x11 x12 x13 t0 t1 t2 K58 hK58 hw
    refine v_iadd (pc2 := 432) S dL_areDoors_431 rfl ?_
    refine v_icmp_ne (pc2 := 435) (tgt := 508) S dL_areDoors_432 (by decide) rfl (fun c124 => ?_) (fun c124 => ?_)
    · have hw := hw.1 c124
      refine v_iconst (v := 0) (pc2 := 509) S dL_areDoors_508 (by decide) rfl ?_
      refine v_istore (lv2 := [(0, .ref a0.1), (1, .int x1), (2, .int x2), (3, .int x3), (4, .int x4), (5, .int x5), (6, .int x6), (7, .int x7), (8, .int x8), (9, .int (0 : Int32)), (10, .int x10), (11, .int x11), (12, .int x12), (13, .int x13)]) (pc2 := 511) S dL_areDoors_509 (by decide) [1, 2, 3, 4, 5, 6, 7, 8, 9, 0, 10, 11, 12, 13] rfl rfl ?_
      obtain ⟨z125, ez125⟩ : ∃ y : Int32, y = x10 + (1 : Int32) := ⟨_, rfl⟩
      have hw := hw z125 ez125
      refine v_iinc (v := z125) (lv2 := [(0, .ref a0.1), (1, .int x1), (2, .int x2), (3, .int x3), (4, .int x4), (5, .int x5), (6, .int x6), (7, .int x7), (8, .int x8), (9, .int (0 : Int32)), (10, .int z125), (11, .int x11), (12, .int x12), (13, .int x13)]) (pc2 := 514) S 10 dL_areDoors_511 rfl (by rw [ez125]; rfl) (by decide) [1, 2, 3, 4, 5, 6, 7, 8, 9, 10, 0, 11, 12, 13] rfl rfl ?_
      refine v_goto (tgt := 58) S dL_areDoors_514 (by decide) ?_
      refine v_lv [(0, .ref a0.1), (1, .int x1), (2, .int x2), (3, .int x3), (4, .int x4), (5, .int x5), (6, .int x6), (7, .int x7), (8, .int x8), (9, .int (0 : Int32)), (10, .int z125)] [0, 1, 2, 3, 4, 5, 6, 7, 8, 9, 10] rfl ?_
      exact hK58 x2 x3 x4 x5 x6 x7 x8 (0 : Int32) z125 hw
    · have hw := hw.2 c124
      refine v_aload_n (pc2 := 436) S 0 dL_areDoors_435 rfl rfl rfl ?_
      refine v_iload (pc2 := 438) S 9 dL_areDoors_436 rfl rfl ?_
      refine v_callV (pc2 := 441) (As := [.int x10]) (rest := []) S (c_X8_whyNot l G a0 v0 x10 _ hw) mf_X8_whyNot u_512 u_513 u_514 0 8 rfl rfl rfl rfl ⟨rfl, rfl⟩ ⟨Nat.le_of_ble_eq_true rfl, Nat.le_of_ble_eq_true rfl⟩ ⟨Nat.le_of_ble_eq_true rfl, Nat.le_of_ble_eq_true rfl⟩ (Nat.le_of_ble_eq_true rfl) dL_areDoors_438 (frW _) rfl (pi (fun r126 u127 hw => ?_))
      refine v_to (wCD G a0 v0.1 v0.2.1 v0.2.2.1 v0.2.2.2.1 v0.2.2.2.2.1 v0.2.2.2.2.2.1 v0.2.2.2.2.2.2) 441 [(0, .ref a0.1), (1, .int x1), (2, .int x2), (3, .int x3), (4, .int x4), (5, .int x5), (6, .int x6), (7, .int x7), (8, .int x8), (10, .int x10), (11, .int x11), (12, .int x12), (13, .int x13)] _ [.int r126] rfl rfl rfl rfl ?_
      refine v_iload (pc2 := 443) S 10 dL_areDoors_441 rfl rfl ?_
      refine v_if_eq (pc2 := 446) (tgt := 450) S dL_areDoors_443 (by decide) rfl (fun c128 => ?_) (fun c128 => ?_)
      · have hw := hw.1 c128
        refine v_aload_n (pc2 := 451) S 0 dL_areDoors_450 rfl rfl rfl ?_
        refine v_iload (pc2 := 453) S 9 dL_areDoors_451 rfl rfl ?_
        refine v_iconst (v := 5) (pc2 := 454) S dL_areDoors_453 (by decide) rfl ?_
        refine v_callV (pc2 := 457) (As := [.int x10, .int (5 : Int32)]) (rest := [.int r126]) S (c_X8_door l G a0 v0 x10 (5 : Int32) _ hw) mf_X8_door u_484 u_485 u_486 0 8 rfl rfl rfl rfl ⟨rfl, rfl⟩ ⟨Nat.le_of_ble_eq_true rfl, Nat.le_of_ble_eq_true rfl⟩ ⟨Nat.le_of_ble_eq_true rfl, Nat.le_of_ble_eq_true rfl⟩ (Nat.le_of_ble_eq_true rfl) dL_areDoors_454 (frW _) rfl (pi (fun r129 u130 hw => ?_))
        refine v_to (wCD G a0 v0.1 v0.2.1 v0.2.2.1 v0.2.2.2.1 v0.2.2.2.2.1 v0.2.2.2.2.2.1 v0.2.2.2.2.2.2) 457 [(0, .ref a0.1), (1, .int x1), (2, .int x2), (3, .int x3), (4, .int x4), (5, .int x5), (6, .int x6), (7, .int x7), (8, .int x8), (10, .int x10), (11, .int x11), (12, .int x12), (13, .int x13)] _ [.int r129, .int r126] rfl rfl rfl rfl ?_
        refine v_iconst (v := 1) (pc2 := 458) S dL_areDoors_457 (by decide) rfl ?_
        refine v_icmp_ne (pc2 := 461) (tgt := 465) S dL_areDoors_458 (by decide) rfl (fun c131 => ?_) (fun c131 => ?_)
        · have hw := hw.1 c131
          refine v_iconst (v := 0) (pc2 := 466) S dL_areDoors_465 (by decide) rfl ?_
          exact B466 x1 x2 x3 x4 x5 x6 x7 x8 x10 x11 x12 x13 r126 (0 : Int32) K58 hK58 hw
        · have hw := hw.2 c131
          refine v_iconst (v := 2) (pc2 := 462) S dL_areDoors_461 (by decide) rfl ?_
          refine v_goto (tgt := 466) S dL_areDoors_462 (by decide) ?_
          exact B466 x1 x2 x3 x4 x5 x6 x7 x8 x10 x11 x12 x13 r126 (2 : Int32) K58 hK58 hw
      · have hw := hw.2 c128
        refine v_iconst (v := 1) (pc2 := 447) S dL_areDoors_446 (by decide) rfl ?_
        refine v_goto (tgt := 466) S dL_areDoors_447 (by decide) ?_
        exact B466 x1 x2 x3 x4 x5 x6 x7 x8 x10 x11 x12 x13 r126 (1 : Int32) K58 hK58 hw
  have B386 : ∀ (x1 : Int32) (x2 : Int32) (x3 : Int32) (x4 : Int32) (x5 : Int32) (x6 : Int32) (x7 : Int32) (x8 : Int32) (x10 : Int32) (x11 : Int32) (x12 : Int32) (x13 : Int32) (K58 : Int32 → Int32 → Int32 → Int32 → Int32 → Int32 → Int32 → Int32 → Int32 → Prop) (hK58 : ∀ (y0 : Int32) (y1 : Int32) (y2 : Int32) (y3 : Int32) (y4 : Int32) (y5 : Int32) (y6 : Int32) (y7 : Int32) (y8 : Int32), K58 y0 y1 y2 y3 y4 y5 y6 y7 y8 → V p l e { frames := 4, cells := 0, slots := 0, locals := 93 } s m args below meth c G (va_A (wCD G a0 v0.1 v0.2.1 v0.2.2.1 v0.2.2.2.1 v0.2.2.2.2.1 v0.2.2.2.2.2.1 v0.2.2.2.2.2.2) s.heap.size) 15 0 0 (MQ below (EQ G (wCD G a0 v0.1 v0.2.1 v0.2.2.1 v0.2.2.2.1 v0.2.2.2.2.1 v0.2.2.2.2.2.1 v0.2.2.2.2.2.2) s.heap.size (PB (fun _ : Unit => wCD G a0 v0.1 v0.2.1 v0.2.2.1 v0.2.2.2.1 v0.2.2.2.2.1 v0.2.2.2.2.2.1 v0.2.2.2.2.2.2) (fun r _ => Q r))) args s 0 0 (va_A (wCD G a0 v0.1 v0.2.1 v0.2.2.1 v0.2.2.2.1 v0.2.2.2.2.1 v0.2.2.2.2.2.1 v0.2.2.2.2.2.2) s.heap.size)) (wCD G a0 v0.1 v0.2.1 v0.2.2.1 v0.2.2.2.1 v0.2.2.2.2.1 v0.2.2.2.2.2.1 v0.2.2.2.2.2.2) 58 [(0, .ref a0.1), (1, .int x1), (2, .int y0), (3, .int y1), (4, .int y2), (5, .int y3), (6, .int y4), (7, .int y5), (8, .int y6), (9, .int y7), (10, .int y8)] []), wp_L_areDoors_B386 v0 x1 x2 x3 x4 x5 x6 x7 x8 x10 x11 x12 x13 Q K58 → V p l e { frames := 4, cells := 0, slots := 0, locals := 93 } s m args below meth c G (va_A (wCD G a0 v0.1 v0.2.1 v0.2.2.1 v0.2.2.2.1 v0.2.2.2.2.1 v0.2.2.2.2.2.1 v0.2.2.2.2.2.2) s.heap.size) 15 0 0 (MQ below (EQ G (wCD G a0 v0.1 v0.2.1 v0.2.2.1 v0.2.2.2.1 v0.2.2.2.2.1 v0.2.2.2.2.2.1 v0.2.2.2.2.2.2) s.heap.size (PB (fun _ : Unit => wCD G a0 v0.1 v0.2.1 v0.2.2.1 v0.2.2.2.1 v0.2.2.2.2.1 v0.2.2.2.2.2.1 v0.2.2.2.2.2.2) (fun r _ => Q r))) args s 0 0 (va_A (wCD G a0 v0.1 v0.2.1 v0.2.2.1 v0.2.2.2.1 v0.2.2.2.2.1 v0.2.2.2.2.2.1 v0.2.2.2.2.2.2) s.heap.size)) (wCD G a0 v0.1 v0.2.1 v0.2.2.1 v0.2.2.2.1 v0.2.2.2.2.1 v0.2.2.2.2.2.1 v0.2.2.2.2.2.2) 386 [(0, .ref a0.1), (1, .int x1), (2, .int x2), (3, .int x3), (4, .int x4), (5, .int x5), (6, .int x6), (7, .int x7), (8, .int x8), (10, .int x10), (11, .int x11), (12, .int x12), (13, .int x13)] [] := by
    intro x1 x2 x3 x4 x5 x6 x7 x8 x10 x11 x12 x13 K58 hK58 hw
    refine v_aload_n (pc2 := 387) S 0 dL_areDoors_386 rfl rfl rfl ?_
    refine v_iload (pc2 := 389) S 9 dL_areDoors_387 rfl rfl ?_
    refine v_bipush (v := 7) (pc2 := 391) S dL_areDoors_389 (by decide) rfl ?_
    refine v_callV (pc2 := 394) (As := [.int x10, .int (7 : Int32)]) (rest := []) S (c_X8_door l G a0 v0 x10 (7 : Int32) _ hw) mf_X8_door u_484 u_485 u_486 0 8 rfl rfl rfl rfl ⟨rfl, rfl⟩ ⟨Nat.le_of_ble_eq_true rfl, Nat.le_of_ble_eq_true rfl⟩ ⟨Nat.le_of_ble_eq_true rfl, Nat.le_of_ble_eq_true rfl⟩ (Nat.le_of_ble_eq_true rfl) dL_areDoors_391 (frW _) rfl (pi (fun r113 u114 hw => ?_))
    refine v_to (wCD G a0 v0.1 v0.2.1 v0.2.2.1 v0.2.2.2.1 v0.2.2.2.2.1 v0.2.2.2.2.2.1 v0.2.2.2.2.2.2) 394 [(0, .ref a0.1), (1, .int x1), (2, .int x2), (3, .int x3), (4, .int x4), (5, .int x5), (6, .int x6), (7, .int x7), (8, .int x8), (10, .int x10), (11, .int x11), (12, .int x12), (13, .int x13)] _ [.int r113] rfl rfl rfl rfl ?_
    refine v_aload_n (pc2 := 395) S 0 dL_areDoors_394 rfl rfl rfl ?_
    refine v_iload (pc2 := 397) S 9 dL_areDoors_395 rfl rfl ?_
    refine v_bipush (v := 6) (pc2 := 399) S dL_areDoors_397 (by decide) rfl ?_
    refine v_callV (pc2 := 402) (As := [.int x10, .int (6 : Int32)]) (rest := [.int r113]) S (c_X8_door l G a0 v0 x10 (6 : Int32) _ hw) mf_X8_door u_484 u_485 u_486 0 8 rfl rfl rfl rfl ⟨rfl, rfl⟩ ⟨Nat.le_of_ble_eq_true rfl, Nat.le_of_ble_eq_true rfl⟩ ⟨Nat.le_of_ble_eq_true rfl, Nat.le_of_ble_eq_true rfl⟩ (Nat.le_of_ble_eq_true rfl) dL_areDoors_399 (frW _) rfl (pi (fun r115 u116 hw => ?_))
    refine v_to (wCD G a0 v0.1 v0.2.1 v0.2.2.1 v0.2.2.2.1 v0.2.2.2.2.1 v0.2.2.2.2.2.1 v0.2.2.2.2.2.2) 402 [(0, .ref a0.1), (1, .int x1), (2, .int x2), (3, .int x3), (4, .int x4), (5, .int x5), (6, .int x6), (7, .int x7), (8, .int x8), (10, .int x10), (11, .int x11), (12, .int x12), (13, .int x13)] _ [.int r115, .int r113] rfl rfl rfl rfl ?_
    refine v_icmp_gt (pc2 := 405) (tgt := 508) S dL_areDoors_402 (by decide) rfl (fun c117 => ?_) (fun c117 => ?_)
    · have hw := hw.1 c117
      refine v_iconst (v := 0) (pc2 := 509) S dL_areDoors_508 (by decide) rfl ?_
      refine v_istore (lv2 := [(0, .ref a0.1), (1, .int x1), (2, .int x2), (3, .int x3), (4, .int x4), (5, .int x5), (6, .int x6), (7, .int x7), (8, .int x8), (9, .int (0 : Int32)), (10, .int x10), (11, .int x11), (12, .int x12), (13, .int x13)]) (pc2 := 511) S dL_areDoors_509 (by decide) [1, 2, 3, 4, 5, 6, 7, 8, 9, 0, 10, 11, 12, 13] rfl rfl ?_
      obtain ⟨z118, ez118⟩ : ∃ y : Int32, y = x10 + (1 : Int32) := ⟨_, rfl⟩
      have hw := hw z118 ez118
      refine v_iinc (v := z118) (lv2 := [(0, .ref a0.1), (1, .int x1), (2, .int x2), (3, .int x3), (4, .int x4), (5, .int x5), (6, .int x6), (7, .int x7), (8, .int x8), (9, .int (0 : Int32)), (10, .int z118), (11, .int x11), (12, .int x12), (13, .int x13)]) (pc2 := 514) S 10 dL_areDoors_511 rfl (by rw [ez118]; rfl) (by decide) [1, 2, 3, 4, 5, 6, 7, 8, 9, 10, 0, 11, 12, 13] rfl rfl ?_
      refine v_goto (tgt := 58) S dL_areDoors_514 (by decide) ?_
      refine v_lv [(0, .ref a0.1), (1, .int x1), (2, .int x2), (3, .int x3), (4, .int x4), (5, .int x5), (6, .int x6), (7, .int x7), (8, .int x8), (9, .int (0 : Int32)), (10, .int z118)] [0, 1, 2, 3, 4, 5, 6, 7, 8, 9, 10] rfl ?_
      exact hK58 x2 x3 x4 x5 x6 x7 x8 (0 : Int32) z118 hw
    · have hw := hw.2 c117
      refine v_aload_n (pc2 := 406) S 0 dL_areDoors_405 rfl rfl rfl ?_
      refine v_iload (pc2 := 408) S 9 dL_areDoors_406 rfl rfl ?_
      refine v_bipush (v := 8) (pc2 := 410) S dL_areDoors_408 (by decide) rfl ?_
      refine v_callV (pc2 := 413) (As := [.int x10, .int (8 : Int32)]) (rest := []) S (c_X8_door l G a0 v0 x10 (8 : Int32) _ hw) mf_X8_door u_484 u_485 u_486 0 8 rfl rfl rfl rfl ⟨rfl, rfl⟩ ⟨Nat.le_of_ble_eq_true rfl, Nat.le_of_ble_eq_true rfl⟩ ⟨Nat.le_of_ble_eq_true rfl, Nat.le_of_ble_eq_true rfl⟩ (Nat.le_of_ble_eq_true rfl) dL_areDoors_410 (frW _) rfl (pi (fun r119 u120 hw => ?_))
      refine v_to (wCD G a0 v0.1 v0.2.1 v0.2.2.1 v0.2.2.2.1 v0.2.2.2.2.1 v0.2.2.2.2.2.1 v0.2.2.2.2.2.2) 413 [(0, .ref a0.1), (1, .int x1), (2, .int x2), (3, .int x3), (4, .int x4), (5, .int x5), (6, .int x6), (7, .int x7), (8, .int x8), (10, .int x10), (11, .int x11), (12, .int x12), (13, .int x13)] _ [.int r119] rfl rfl rfl rfl ?_
      refine v_aload_n (pc2 := 414) S 0 dL_areDoors_413 rfl rfl rfl ?_
      refine v_iload (pc2 := 416) S 9 dL_areDoors_414 rfl rfl ?_
      refine v_bipush (v := 9) (pc2 := 418) S dL_areDoors_416 (by decide) rfl ?_
      refine v_callV (pc2 := 421) (As := [.int x10, .int (9 : Int32)]) (rest := [.int r119]) S (c_X8_door l G a0 v0 x10 (9 : Int32) _ hw) mf_X8_door u_484 u_485 u_486 0 8 rfl rfl rfl rfl ⟨rfl, rfl⟩ ⟨Nat.le_of_ble_eq_true rfl, Nat.le_of_ble_eq_true rfl⟩ ⟨Nat.le_of_ble_eq_true rfl, Nat.le_of_ble_eq_true rfl⟩ (Nat.le_of_ble_eq_true rfl) dL_areDoors_418 (frW _) rfl (pi (fun r121 u122 hw => ?_))
      refine v_to (wCD G a0 v0.1 v0.2.1 v0.2.2.1 v0.2.2.2.1 v0.2.2.2.2.1 v0.2.2.2.2.2.1 v0.2.2.2.2.2.2) 421 [(0, .ref a0.1), (1, .int x1), (2, .int x2), (3, .int x3), (4, .int x4), (5, .int x5), (6, .int x6), (7, .int x7), (8, .int x8), (10, .int x10), (11, .int x11), (12, .int x12), (13, .int x13)] _ [.int r121, .int r119] rfl rfl rfl rfl ?_
      refine v_iload (pc2 := 423) S 10 dL_areDoors_421 rfl rfl ?_
      refine v_if_eq (pc2 := 426) (tgt := 430) S dL_areDoors_423 (by decide) rfl (fun c123 => ?_) (fun c123 => ?_)
      · have hw := hw.1 c123
        refine v_iconst (v := 0) (pc2 := 431) S dL_areDoors_430 (by decide) rfl ?_
        exact B431 x1 x2 x3 x4 x5 x6 x7 x8 x10 x11 x12 x13 r119 r121 (0 : Int32) K58 hK58 hw
      · have hw := hw.2 c123
        refine v_iconst (v := 1) (pc2 := 427) S dL_areDoors_426 (by decide) rfl ?_
        refine v_goto (tgt := 431) S dL_areDoors_427 (by decide) ?_
        exact B431 x1 x2 x3 x4 x5 x6 x7 x8 x10 x11 x12 x13 r119 r121 (1 : Int32) K58 hK58 hw
  have B368 : ∀ (x1 : Int32) (x2 : Int32) (x3 : Int32) (x4 : Int32) (x5 : Int32) (x6 : Int32) (x7 : Int32) (x8 : Int32) (x10 : Int32) (x11 : Int32) (x12 : Int32) (x13 : Int32) (t0 : Int32) (t1 : Int32) (K58 : Int32 → Int32 → Int32 → Int32 → Int32 → Int32 → Int32 → Int32 → Int32 → Prop) (hK58 : ∀ (y0 : Int32) (y1 : Int32) (y2 : Int32) (y3 : Int32) (y4 : Int32) (y5 : Int32) (y6 : Int32) (y7 : Int32) (y8 : Int32), K58 y0 y1 y2 y3 y4 y5 y6 y7 y8 → V p l e { frames := 4, cells := 0, slots := 0, locals := 93 } s m args below meth c G (va_A (wCD G a0 v0.1 v0.2.1 v0.2.2.1 v0.2.2.2.1 v0.2.2.2.2.1 v0.2.2.2.2.2.1 v0.2.2.2.2.2.2) s.heap.size) 15 0 0 (MQ below (EQ G (wCD G a0 v0.1 v0.2.1 v0.2.2.1 v0.2.2.2.1 v0.2.2.2.2.1 v0.2.2.2.2.2.1 v0.2.2.2.2.2.2) s.heap.size (PB (fun _ : Unit => wCD G a0 v0.1 v0.2.1 v0.2.2.1 v0.2.2.2.1 v0.2.2.2.2.1 v0.2.2.2.2.2.1 v0.2.2.2.2.2.2) (fun r _ => Q r))) args s 0 0 (va_A (wCD G a0 v0.1 v0.2.1 v0.2.2.1 v0.2.2.2.1 v0.2.2.2.2.1 v0.2.2.2.2.2.1 v0.2.2.2.2.2.2) s.heap.size)) (wCD G a0 v0.1 v0.2.1 v0.2.2.1 v0.2.2.2.1 v0.2.2.2.2.1 v0.2.2.2.2.2.1 v0.2.2.2.2.2.2) 58 [(0, .ref a0.1), (1, .int x1), (2, .int y0), (3, .int y1), (4, .int y2), (5, .int y3), (6, .int y4), (7, .int y5), (8, .int y6), (9, .int y7), (10, .int y8)] []), wp_L_areDoors_B368 v0 x1 x2 x3 x4 x5 x6 x7 x8 x10 x11 x12 x13 t0 t1 Q K58 → V p l e { frames := 4, cells := 0, slots := 0, locals := 93 } s m args below meth c G (va_A (wCD G a0 v0.1 v0.2.1 v0.2.2.1 v0.2.2.2.1 v0.2.2.2.2.1 v0.2.2.2.2.2.1 v0.2.2.2.2.2.2) s.heap.size) 15 0 0 (MQ below (EQ G (wCD G a0 v0.1 v0.2.1 v0.2.2.1 v0.2.2.2.1 v0.2.2.2.2.1 v0.2.2.2.2.2.1 v0.2.2.2.2.2.2) s.heap.size (PB (fun _ : Unit => wCD G a0 v0.1 v0.2.1 v0.2.2.1 v0.2.2.2.1 v0.2.2.2.2.1 v0.2.2.2.2.2.1 v0.2.2.2.2.2.2) (fun r _ => Q r))) args s 0 0 (va_A (wCD G a0 v0.1 v0.2.1 v0.2.2.1 v0.2.2.2.1 v0.2.2.2.2.1 v0.2.2.2.2.2.1 v0.2.2.2.2.2.2) s.heap.size)) (wCD G a0 v0.1 v0.2.1 v0.2.2.1 v0.2.2.2.1 v0.2.2.2.2.1 v0.2.2.2.2.2.1 v0.2.2.2.2.2.2) 368 [(0, .ref a0.1), (1, .int x1), (2, .int x2), (3, .int x3), (4, .int x4), (5, .int x5), (6, .int x6), (7, .int x7), (8, .int x8), (10, .int x10), (11, .int x11), (12, .int x12), (13, .int x13)] [.int t1, .int t0] := by
    intro x1 x2 x3 x4 x5 x6 x7 x8 x10 x11 x12 x13 t0 t1 K58 hK58 hw
    refine v_icmp_ne (pc2 := 371) (tgt := 508) S dL_areDoors_368 (by decide) rfl (fun c108 => ?_) (fun c108 => ?_)
    · have hw := hw.1 c108
      refine v_iconst (v := 0) (pc2 := 509) S dL_areDoors_508 (by decide) rfl ?_
      refine v_istore (lv2 := [(0, .ref a0.1), (1, .int x1), (2, .int x2), (3, .int x3), (4, .int x4), (5, .int x5), (6, .int x6), (7, .int x7), (8, .int x8), (9, .int (0 : Int32)), (10, .int x10), (11, .int x11), (12, .int x12), (13, .int x13)]) (pc2 := 511) S dL_areDoors_509 (by decide) [1, 2, 3, 4, 5, 6, 7, 8, 9, 0, 10, 11, 12, 13] rfl rfl ?_
      obtain ⟨z109, ez109⟩ : ∃ y : Int32, y = x10 + (1 : Int32) := ⟨_, rfl⟩
      have hw := hw z109 ez109
      refine v_iinc (v := z109) (lv2 := [(0, .ref a0.1), (1, .int x1), (2, .int x2), (3, .int x3), (4, .int x4), (5, .int x5), (6, .int x6), (7, .int x7), (8, .int x8), (9, .int (0 : Int32)), (10, .int z109), (11, .int x11), (12, .int x12), (13, .int x13)]) (pc2 := 514) S 10 dL_areDoors_511 rfl (by rw [ez109]; rfl) (by decide) [1, 2, 3, 4, 5, 6, 7, 8, 9, 10, 0, 11, 12, 13] rfl rfl ?_
      refine v_goto (tgt := 58) S dL_areDoors_514 (by decide) ?_
      refine v_lv [(0, .ref a0.1), (1, .int x1), (2, .int x2), (3, .int x3), (4, .int x4), (5, .int x5), (6, .int x6), (7, .int x7), (8, .int x8), (9, .int (0 : Int32)), (10, .int z109)] [0, 1, 2, 3, 4, 5, 6, 7, 8, 9, 10] rfl ?_
      exact hK58 x2 x3 x4 x5 x6 x7 x8 (0 : Int32) z109 hw
    · have hw := hw.2 c108
      refine v_aload_n (pc2 := 372) S 0 dL_areDoors_371 rfl rfl rfl ?_
      refine v_iload (pc2 := 374) S 9 dL_areDoors_372 rfl rfl ?_
      refine v_iconst (v := 5) (pc2 := 375) S dL_areDoors_374 (by decide) rfl ?_
      refine v_callV (pc2 := 378) (As := [.int x10, .int (5 : Int32)]) (rest := []) S (c_X8_door l G a0 v0 x10 (5 : Int32) _ hw) mf_X8_door u_484 u_485 u_486 0 8 rfl rfl rfl rfl ⟨rfl, rfl⟩ ⟨Nat.le_of_ble_eq_true rfl, Nat.le_of_ble_eq_true rfl⟩ ⟨Nat.le_of_ble_eq_true rfl, Nat.le_of_ble_eq_true rfl⟩ (Nat.le_of_ble_eq_true rfl) dL_areDoors_375 (frW _) rfl (pi (fun r110 u111 hw => ?_))
      refine v_to (wCD G a0 v0.1 v0.2.1 v0.2.2.1 v0.2.2.2.1 v0.2.2.2.2.1 v0.2.2.2.2.2.1 v0.2.2.2.2.2.2) 378 [(0, .ref a0.1), (1, .int x1), (2, .int x2), (3, .int x3), (4, .int x4), (5, .int x5), (6, .int x6), (7, .int x7), (8, .int x8), (10, .int x10), (11, .int x11), (12, .int x12), (13, .int x13)] _ [.int r110] rfl rfl rfl rfl ?_
      refine v_if_eq (pc2 := 381) (tgt := 386) S dL_areDoors_378 (by decide) rfl (fun c112 => ?_) (fun c112 => ?_)
      · have hw := hw.1 c112
        exact B386 x1 x2 x3 x4 x5 x6 x7 x8 x10 x11 x12 x13 K58 hK58 hw
      · have hw := hw.2 c112
        refine v_iload (pc2 := 383) S 10 dL_areDoors_381 rfl rfl ?_
        refine v_if_ne (pc2 := 386) (tgt := 508) S dL_areDoors_383 (by decide) rfl (fun c148 => ?_) (fun c148 => ?_)
        · have hw := hw.1 c148
          refine v_iconst (v := 0) (pc2 := 509) S dL_areDoors_508 (by decide) rfl ?_
          refine v_istore (lv2 := [(0, .ref a0.1), (1, .int x1), (2, .int x2), (3, .int x3), (4, .int x4), (5, .int x5), (6, .int x6), (7, .int x7), (8, .int x8), (9, .int (0 : Int32)), (10, .int x10), (11, .int x11), (12, .int x12), (13, .int x13)]) (pc2 := 511) S dL_areDoors_509 (by decide) [1, 2, 3, 4, 5, 6, 7, 8, 9, 0, 10, 11, 12, 13] rfl rfl ?_
          obtain ⟨z149, ez149⟩ : ∃ y : Int32, y = x10 + (1 : Int32) := ⟨_, rfl⟩
          have hw := hw z149 ez149
          refine v_iinc (v := z149) (lv2 := [(0, .ref a0.1), (1, .int x1), (2, .int x2), (3, .int x3), (4, .int x4), (5, .int x5), (6, .int x6), (7, .int x7), (8, .int x8), (9, .int (0 : Int32)), (10, .int z149), (11, .int x11), (12, .int x12), (13, .int x13)]) (pc2 := 514) S 10 dL_areDoors_511 rfl (by rw [ez149]; rfl) (by decide) [1, 2, 3, 4, 5, 6, 7, 8, 9, 10, 0, 11, 12, 13] rfl rfl ?_
          refine v_goto (tgt := 58) S dL_areDoors_514 (by decide) ?_
          refine v_lv [(0, .ref a0.1), (1, .int x1), (2, .int x2), (3, .int x3), (4, .int x4), (5, .int x5), (6, .int x6), (7, .int x7), (8, .int x8), (9, .int (0 : Int32)), (10, .int z149)] [0, 1, 2, 3, 4, 5, 6, 7, 8, 9, 10] rfl ?_
          exact hK58 x2 x3 x4 x5 x6 x7 x8 (0 : Int32) z149 hw
        · have hw := hw.2 c148
          exact B386 x1 x2 x3 x4 x5 x6 x7 x8 x10 x11 x12 x13 K58 hK58 hw
  have B345 : ∀ (x1 : Int32) (x2 : Int32) (x3 : Int32) (x4 : Int32) (x5 : Int32) (x6 : Int32) (x7 : Int32) (x8 : Int32) (x10 : Int32) (x11 : Int32) (x12 : Int32) (x13 : Int32) (K58 : Int32 → Int32 → Int32 → Int32 → Int32 → Int32 → Int32 → Int32 → Int32 → Prop) (hK58 : ∀ (y0 : Int32) (y1 : Int32) (y2 : Int32) (y3 : Int32) (y4 : Int32) (y5 : Int32) (y6 : Int32) (y7 : Int32) (y8 : Int32), K58 y0 y1 y2 y3 y4 y5 y6 y7 y8 → V p l e { frames := 4, cells := 0, slots := 0, locals := 93 } s m args below meth c G (va_A (wCD G a0 v0.1 v0.2.1 v0.2.2.1 v0.2.2.2.1 v0.2.2.2.2.1 v0.2.2.2.2.2.1 v0.2.2.2.2.2.2) s.heap.size) 15 0 0 (MQ below (EQ G (wCD G a0 v0.1 v0.2.1 v0.2.2.1 v0.2.2.2.1 v0.2.2.2.2.1 v0.2.2.2.2.2.1 v0.2.2.2.2.2.2) s.heap.size (PB (fun _ : Unit => wCD G a0 v0.1 v0.2.1 v0.2.2.1 v0.2.2.2.1 v0.2.2.2.2.1 v0.2.2.2.2.2.1 v0.2.2.2.2.2.2) (fun r _ => Q r))) args s 0 0 (va_A (wCD G a0 v0.1 v0.2.1 v0.2.2.1 v0.2.2.2.1 v0.2.2.2.2.1 v0.2.2.2.2.2.1 v0.2.2.2.2.2.2) s.heap.size)) (wCD G a0 v0.1 v0.2.1 v0.2.2.1 v0.2.2.2.1 v0.2.2.2.2.1 v0.2.2.2.2.2.1 v0.2.2.2.2.2.2) 58 [(0, .ref a0.1), (1, .int x1), (2, .int y0), (3, .int y1), (4, .int y2), (5, .int y3), (6, .int y4), (7, .int y5), (8, .int y6), (9, .int y7), (10, .int y8)] []), wp_L_areDoors_B345 v0 x1 x2 x3 x4 x5 x6 x7 x8 x10 x11 x12 x13 Q K58 → V p l e { frames := 4, cells := 0, slots := 0, locals := 93 } s m args below meth c G (va_A (wCD G a0 v0.1 v0.2.1 v0.2.2.1 v0.2.2.2.1 v0.2.2.2.2.1 v0.2.2.2.2.2.1 v0.2.2.2.2.2.2) s.heap.size) 15 0 0 (MQ below (EQ G (wCD G a0 v0.1 v0.2.1 v0.2.2.1 v0.2.2.2.1 v0.2.2.2.2.1 v0.2.2.2.2.2.1 v0.2.2.2.2.2.2) s.heap.size (PB (fun _ : Unit => wCD G a0 v0.1 v0.2.1 v0.2.2.1 v0.2.2.2.1 v0.2.2.2.2.1 v0.2.2.2.2.2.1 v0.2.2.2.2.2.2) (fun r _ => Q r))) args s 0 0 (va_A (wCD G a0 v0.1 v0.2.1 v0.2.2.1 v0.2.2.2.1 v0.2.2.2.2.1 v0.2.2.2.2.2.1 v0.2.2.2.2.2.2) s.heap.size)) (wCD G a0 v0.1 v0.2.1 v0.2.2.1 v0.2.2.2.1 v0.2.2.2.2.1 v0.2.2.2.2.2.1 v0.2.2.2.2.2.2) 345 [(0, .ref a0.1), (1, .int x1), (2, .int x2), (3, .int x3), (4, .int x4), (5, .int x5), (6, .int x6), (7, .int x7), (8, .int x8), (10, .int x10), (11, .int x11), (12, .int x12), (13, .int x13)] [] := by
    intro x1 x2 x3 x4 x5 x6 x7 x8 x10 x11 x12 x13 K58 hK58 hw
    refine v_aload_n (pc2 := 346) S 0 dL_areDoors_345 rfl rfl rfl ?_
    refine v_iload (pc2 := 348) S 9 dL_areDoors_346 rfl rfl ?_
    refine v_iconst (v := 5) (pc2 := 349) S dL_areDoors_348 (by decide) rfl ?_
    refine v_callV (pc2 := 352) (As := [.int x10, .int (5 : Int32)]) (rest := []) S (c_X8_door l G a0 v0 x10 (5 : Int32) _ hw) mf_X8_door u_484 u_485 u_486 0 8 rfl rfl rfl rfl ⟨rfl, rfl⟩ ⟨Nat.le_of_ble_eq_true rfl, Nat.le_of_ble_eq_true rfl⟩ ⟨Nat.le_of_ble_eq_true rfl, Nat.le_of_ble_eq_true rfl⟩ (Nat.le_of_ble_eq_true rfl) dL_areDoors_349 (frW _) rfl (pi (fun r103 u104 hw => ?_))
    refine v_to (wCD G a0 v0.1 v0.2.1 v0.2.2.1 v0.2.2.2.1 v0.2.2.2.2.1 v0.2.2.2.2.2.1 v0.2.2.2.2.2.2) 352 [(0, .ref a0.1), (1, .int x1), (2, .int x2), (3, .int x3), (4, .int x4), (5, .int x5), (6, .int x6), (7, .int x7), (8, .int x8), (10, .int x10), (11, .int x11), (12, .int x12), (13, .int x13)] _ [.int r103] rfl rfl rfl rfl ?_
    refine v_aload_n (pc2 := 353) S 0 dL_areDoors_352 rfl rfl rfl ?_
    refine v_iload (pc2 := 355) S 9 dL_areDoors_353 rfl rfl ?_
    refine v_bipush (v := 7) (pc2 := 357) S dL_areDoors_355 (by decide) rfl ?_
    refine v_callV (pc2 := 360) (As := [.int x10, .int (7 : Int32)]) (rest := [.int r103]) S (c_X8_door l G a0 v0 x10 (7 : Int32) _ hw) mf_X8_door u_484 u_485 u_486 0 8 rfl rfl rfl rfl ⟨rfl, rfl⟩ ⟨Nat.le_of_ble_eq_true rfl, Nat.le_of_ble_eq_true rfl⟩ ⟨Nat.le_of_ble_eq_true rfl, Nat.le_of_ble_eq_true rfl⟩ (Nat.le_of_ble_eq_true rfl) dL_areDoors_357 (frW _) rfl (pi (fun r105 u106 hw => ?_))
    refine v_to (wCD G a0 v0.1 v0.2.1 v0.2.2.1 v0.2.2.2.1 v0.2.2.2.2.1 v0.2.2.2.2.2.1 v0.2.2.2.2.2.2) 360 [(0, .ref a0.1), (1, .int x1), (2, .int x2), (3, .int x3), (4, .int x4), (5, .int x5), (6, .int x6), (7, .int x7), (8, .int x8), (10, .int x10), (11, .int x11), (12, .int x12), (13, .int x13)] _ [.int r105, .int r103] rfl rfl rfl rfl ?_
    refine v_if_le (pc2 := 363) (tgt := 367) S dL_areDoors_360 (by decide) rfl (fun c107 => ?_) (fun c107 => ?_)
    · have hw := hw.1 c107
      refine v_iconst (v := 0) (pc2 := 368) S dL_areDoors_367 (by decide) rfl ?_
      exact B368 x1 x2 x3 x4 x5 x6 x7 x8 x10 x11 x12 x13 r103 (0 : Int32) K58 hK58 hw
    · have hw := hw.2 c107
      refine v_iconst (v := 1) (pc2 := 364) S dL_areDoors_363 (by decide) rfl ?_
      refine v_goto (tgt := 368) S dL_areDoors_364 (by decide) ?_
      exact B368 x1 x2 x3 x4 x5 x6 x7 x8 x10 x11 x12 x13 r103 (1 : Int32) K58 hK58 hw
  have B333 : ∀ (x1 : Int32) (x2 : Int32) (x3 : Int32) (x4 : Int32) (x5 : Int32) (x6 : Int32) (x7 : Int32) (x8 : Int32) (x10 : Int32) (x11 : Int32) (x12 : Int32) (x13 : Int32) (K58 : Int32 → Int32 → Int32 → Int32 → Int32 → Int32 → Int32 → Int32 → Int32 → Prop) (hK58 : ∀ (y0 : Int32) (y1 : Int32) (y2 : Int32) (y3 : Int32) (y4 : Int32) (y5 : Int32) (y6 : Int32) (y7 : Int32) (y8 : Int32), K58 y0 y1 y2 y3 y4 y5 y6 y7 y8 → V p l e { frames := 4, cells := 0, slots := 0, locals := 93 } s m args below meth c G (va_A (wCD G a0 v0.1 v0.2.1 v0.2.2.1 v0.2.2.2.1 v0.2.2.2.2.1 v0.2.2.2.2.2.1 v0.2.2.2.2.2.2) s.heap.size) 15 0 0 (MQ below (EQ G (wCD G a0 v0.1 v0.2.1 v0.2.2.1 v0.2.2.2.1 v0.2.2.2.2.1 v0.2.2.2.2.2.1 v0.2.2.2.2.2.2) s.heap.size (PB (fun _ : Unit => wCD G a0 v0.1 v0.2.1 v0.2.2.1 v0.2.2.2.1 v0.2.2.2.2.1 v0.2.2.2.2.2.1 v0.2.2.2.2.2.2) (fun r _ => Q r))) args s 0 0 (va_A (wCD G a0 v0.1 v0.2.1 v0.2.2.1 v0.2.2.2.1 v0.2.2.2.2.1 v0.2.2.2.2.2.1 v0.2.2.2.2.2.2) s.heap.size)) (wCD G a0 v0.1 v0.2.1 v0.2.2.1 v0.2.2.2.1 v0.2.2.2.2.1 v0.2.2.2.2.2.1 v0.2.2.2.2.2.2) 58 [(0, .ref a0.1), (1, .int x1), (2, .int y0), (3, .int y1), (4, .int y2), (5, .int y3), (6, .int y4), (7, .int y5), (8, .int y6), (9, .int y7), (10, .int y8)] []), wp_L_areDoors_B333 v0 x1 x2 x3 x4 x5 x6 x7 x8 x10 x11 x12 x13 Q K58 → V p l e { frames := 4, cells := 0, slots := 0, locals := 93 } s m args below meth c G (va_A (wCD G a0 v0.1 v0.2.1 v0.2.2.1 v0.2.2.2.1 v0.2.2.2.2.1 v0.2.2.2.2.2.1 v0.2.2.2.2.2.2) s.heap.size) 15 0 0 (MQ below (EQ G (wCD G a0 v0.1 v0.2.1 v0.2.2.1 v0.2.2.2.1 v0.2.2.2.2.1 v0.2.2.2.2.2.1 v0.2.2.2.2.2.2) s.heap.size (PB (fun _ : Unit => wCD G a0 v0.1 v0.2.1 v0.2.2.1 v0.2.2.2.1 v0.2.2.2.2.1 v0.2.2.2.2.2.1 v0.2.2.2.2.2.2) (fun r _ => Q r))) args s 0 0 (va_A (wCD G a0 v0.1 v0.2.1 v0.2.2.1 v0.2.2.2.1 v0.2.2.2.2.1 v0.2.2.2.2.2.1 v0.2.2.2.2.2.2) s.heap.size)) (wCD G a0 v0.1 v0.2.1 v0.2.2.1 v0.2.2.2.1 v0.2.2.2.2.1 v0.2.2.2.2.2.1 v0.2.2.2.2.2.2) 333 [(0, .ref a0.1), (1, .int x1), (2, .int x2), (3, .int x3), (4, .int x4), (5, .int x5), (6, .int x6), (7, .int x7), (8, .int x8), (10, .int x10), (11, .int x11), (12, .int x12), (13, .int x13)] [] := by
    intro x1 x2 x3 x4 x5 x6 x7 x8 x10 x11 x12 x13 K58 hK58 hw
    refine v_iload (pc2 := 335) S 12 dL_areDoors_333 rfl rfl ?_
    refine v_if_ge (pc2 := 338) (tgt := 345) S dL_areDoors_335 (by decide) rfl (fun c102 => ?_) (fun c102 => ?_)
    · have hw := hw.1 c102
      exact B345 x1 x2 x3 x4 x5 x6 x7 x8 x10 x11 x12 x13 K58 hK58 hw
    · have hw := hw.2 c102
      refine v_iload (pc2 := 340) S 12 dL_areDoors_338 rfl rfl ?_
      refine v_bipush (v := -4) (pc2 := 342) S dL_areDoors_340 (by decide) rfl ?_
      refine v_icmp_ne (pc2 := 345) (tgt := 508) S dL_areDoors_342 (by decide) rfl (fun c150 => ?_) (fun c150 => ?_)
      · have hw := hw.1 c150
        refine v_iconst (v := 0) (pc2 := 509) S dL_areDoors_508 (by decide) rfl ?_
        refine v_istore (lv2 := [(0, .ref a0.1), (1, .int x1), (2, .int x2), (3, .int x3), (4, .int x4), (5, .int x5), (6, .int x6), (7, .int x7), (8, .int x8), (9, .int (0 : Int32)), (10, .int x10), (11, .int x11), (12, .int x12), (13, .int x13)]) (pc2 := 511) S dL_areDoors_509 (by decide) [1, 2, 3, 4, 5, 6, 7, 8, 9, 0, 10, 11, 12, 13] rfl rfl ?_
        obtain ⟨z151, ez151⟩ : ∃ y : Int32, y = x10 + (1 : Int32) := ⟨_, rfl⟩
        have hw := hw z151 ez151
        refine v_iinc (v := z151) (lv2 := [(0, .ref a0.1), (1, .int x1), (2, .int x2), (3, .int x3), (4, .int x4), (5, .int x5), (6, .int x6), (7, .int x7), (8, .int x8), (9, .int (0 : Int32)), (10, .int z151), (11, .int x11), (12, .int x12), (13, .int x13)]) (pc2 := 514) S 10 dL_areDoors_511 rfl (by rw [ez151]; rfl) (by decide) [1, 2, 3, 4, 5, 6, 7, 8, 9, 10, 0, 11, 12, 13] rfl rfl ?_
        refine v_goto (tgt := 58) S dL_areDoors_514 (by decide) ?_
        refine v_lv [(0, .ref a0.1), (1, .int x1), (2, .int x2), (3, .int x3), (4, .int x4), (5, .int x5), (6, .int x6), (7, .int x7), (8, .int x8), (9, .int (0 : Int32)), (10, .int z151)] [0, 1, 2, 3, 4, 5, 6, 7, 8, 9, 10] rfl ?_
        exact hK58 x2 x3 x4 x5 x6 x7 x8 (0 : Int32) z151 hw
      · have hw := hw.2 c150
        exact B345 x1 x2 x3 x4 x5 x6 x7 x8 x10 x11 x12 x13 K58 hK58 hw
  have B307 : ∀ (x1 : Int32) (x2 : Int32) (x3 : Int32) (x4 : Int32) (x5 : Int32) (x6 : Int32) (x7 : Int32) (x8 : Int32) (x10 : Int32) (x11 : Int32) (x12 : Int32) (x13 : Int32) (K58 : Int32 → Int32 → Int32 → Int32 → Int32 → Int32 → Int32 → Int32 → Int32 → Prop) (hK58 : ∀ (y0 : Int32) (y1 : Int32) (y2 : Int32) (y3 : Int32) (y4 : Int32) (y5 : Int32) (y6 : Int32) (y7 : Int32) (y8 : Int32), K58 y0 y1 y2 y3 y4 y5 y6 y7 y8 → V p l e { frames := 4, cells := 0, slots := 0, locals := 93 } s m args below meth c G (va_A (wCD G a0 v0.1 v0.2.1 v0.2.2.1 v0.2.2.2.1 v0.2.2.2.2.1 v0.2.2.2.2.2.1 v0.2.2.2.2.2.2) s.heap.size) 15 0 0 (MQ below (EQ G (wCD G a0 v0.1 v0.2.1 v0.2.2.1 v0.2.2.2.1 v0.2.2.2.2.1 v0.2.2.2.2.2.1 v0.2.2.2.2.2.2) s.heap.size (PB (fun _ : Unit => wCD G a0 v0.1 v0.2.1 v0.2.2.1 v0.2.2.2.1 v0.2.2.2.2.1 v0.2.2.2.2.2.1 v0.2.2.2.2.2.2) (fun r _ => Q r))) args s 0 0 (va_A (wCD G a0 v0.1 v0.2.1 v0.2.2.1 v0.2.2.2.1 v0.2.2.2.2.1 v0.2.2.2.2.2.1 v0.2.2.2.2.2.2) s.heap.size)) (wCD G a0 v0.1 v0.2.1 v0.2.2.1 v0.2.2.2.1 v0.2.2.2.2.1 v0.2.2.2.2.2.1 v0.2.2.2.2.2.2) 58 [(0, .ref a0.1), (1, .int x1), (2, .int y0), (3, .int y1), (4, .int y2), (5, .int y3), (6, .int y4), (7, .int y5), (8, .int y6), (9, .int y7), (10, .int y8)] []), wp_L_areDoors_B307 v0 x1 x2 x3 x4 x5 x6 x7 x8 x10 x11 x12 x13 Q K58 → V p l e { frames := 4, cells := 0, slots := 0, locals := 93 } s m args below meth c G (va_A (wCD G a0 v0.1 v0.2.1 v0.2.2.1 v0.2.2.2.1 v0.2.2.2.2.1 v0.2.2.2.2.2.1 v0.2.2.2.2.2.2) s.heap.size) 15 0 0 (MQ below (EQ G (wCD G a0 v0.1 v0.2.1 v0.2.2.1 v0.2.2.2.1 v0.2.2.2.2.1 v0.2.2.2.2.2.1 v0.2.2.2.2.2.2) s.heap.size (PB (fun _ : Unit => wCD G a0 v0.1 v0.2.1 v0.2.2.1 v0.2.2.2.1 v0.2.2.2.2.1 v0.2.2.2.2.2.1 v0.2.2.2.2.2.2) (fun r _ => Q r))) args s 0 0 (va_A (wCD G a0 v0.1 v0.2.1 v0.2.2.1 v0.2.2.2.1 v0.2.2.2.2.1 v0.2.2.2.2.2.1 v0.2.2.2.2.2.2) s.heap.size)) (wCD G a0 v0.1 v0.2.1 v0.2.2.1 v0.2.2.2.1 v0.2.2.2.2.1 v0.2.2.2.2.2.1 v0.2.2.2.2.2.2) 307 [(0, .ref a0.1), (1, .int x1), (2, .int x2), (3, .int x3), (4, .int x4), (5, .int x5), (6, .int x6), (7, .int x7), (8, .int x8), (10, .int x10), (11, .int x11), (12, .int x12), (13, .int x13)] [] := by
    intro x1 x2 x3 x4 x5 x6 x7 x8 x10 x11 x12 x13 K58 hK58 hw
    refine v_iload (pc2 := 309) S 11 dL_areDoors_307 rfl rfl ?_
    refine v_bipush (v := 10) (pc2 := 311) S dL_areDoors_309 (by decide) rfl ?_
    refine v_icmp_ge (pc2 := 314) (tgt := 508) S dL_areDoors_311 (by decide) rfl (fun c97 => ?_) (fun c97 => ?_)
    · have hw := hw.1 c97
      refine v_iconst (v := 0) (pc2 := 509) S dL_areDoors_508 (by decide) rfl ?_
      refine v_istore (lv2 := [(0, .ref a0.1), (1, .int x1), (2, .int x2), (3, .int x3), (4, .int x4), (5, .int x5), (6, .int x6), (7, .int x7), (8, .int x8), (9, .int (0 : Int32)), (10, .int x10), (11, .int x11), (12, .int x12), (13, .int x13)]) (pc2 := 511) S dL_areDoors_509 (by decide) [1, 2, 3, 4, 5, 6, 7, 8, 9, 0, 10, 11, 12, 13] rfl rfl ?_
      obtain ⟨z98, ez98⟩ : ∃ y : Int32, y = x10 + (1 : Int32) := ⟨_, rfl⟩
      have hw := hw z98 ez98
      refine v_iinc (v := z98) (lv2 := [(0, .ref a0.1), (1, .int x1), (2, .int x2), (3, .int x3), (4, .int x4), (5, .int x5), (6, .int x6), (7, .int x7), (8, .int x8), (9, .int (0 : Int32)), (10, .int z98), (11, .int x11), (12, .int x12), (13, .int x13)]) (pc2 := 514) S 10 dL_areDoors_511 rfl (by rw [ez98]; rfl) (by decide) [1, 2, 3, 4, 5, 6, 7, 8, 9, 10, 0, 11, 12, 13] rfl rfl ?_
      refine v_goto (tgt := 58) S dL_areDoors_514 (by decide) ?_
      refine v_lv [(0, .ref a0.1), (1, .int x1), (2, .int x2), (3, .int x3), (4, .int x4), (5, .int x5), (6, .int x6), (7, .int x7), (8, .int x8), (9, .int (0 : Int32)), (10, .int z98)] [0, 1, 2, 3, 4, 5, 6, 7, 8, 9, 10] rfl ?_
      exact hK58 x2 x3 x4 x5 x6 x7 x8 (0 : Int32) z98 hw
    · have hw := hw.2 c97
      refine v_iload (pc2 := 316) S 12 dL_areDoors_314 rfl rfl ?_
      refine v_bipush (v := 10) (pc2 := 318) S dL_areDoors_316 (by decide) rfl ?_
      refine v_icmp_ge (pc2 := 321) (tgt := 508) S dL_areDoors_318 (by decide) rfl (fun c99 => ?_) (fun c99 => ?_)
      · have hw := hw.1 c99
        refine v_iconst (v := 0) (pc2 := 509) S dL_areDoors_508 (by decide) rfl ?_
        refine v_istore (lv2 := [(0, .ref a0.1), (1, .int x1), (2, .int x2), (3, .int x3), (4, .int x4), (5, .int x5), (6, .int x6), (7, .int x7), (8, .int x8), (9, .int (0 : Int32)), (10, .int x10), (11, .int x11), (12, .int x12), (13, .int x13)]) (pc2 := 511) S dL_areDoors_509 (by decide) [1, 2, 3, 4, 5, 6, 7, 8, 9, 0, 10, 11, 12, 13] rfl rfl ?_
        obtain ⟨z100, ez100⟩ : ∃ y : Int32, y = x10 + (1 : Int32) := ⟨_, rfl⟩
        have hw := hw z100 ez100
        refine v_iinc (v := z100) (lv2 := [(0, .ref a0.1), (1, .int x1), (2, .int x2), (3, .int x3), (4, .int x4), (5, .int x5), (6, .int x6), (7, .int x7), (8, .int x8), (9, .int (0 : Int32)), (10, .int z100), (11, .int x11), (12, .int x12), (13, .int x13)]) (pc2 := 514) S 10 dL_areDoors_511 rfl (by rw [ez100]; rfl) (by decide) [1, 2, 3, 4, 5, 6, 7, 8, 9, 10, 0, 11, 12, 13] rfl rfl ?_
        refine v_goto (tgt := 58) S dL_areDoors_514 (by decide) ?_
        refine v_lv [(0, .ref a0.1), (1, .int x1), (2, .int x2), (3, .int x3), (4, .int x4), (5, .int x5), (6, .int x6), (7, .int x7), (8, .int x8), (9, .int (0 : Int32)), (10, .int z100)] [0, 1, 2, 3, 4, 5, 6, 7, 8, 9, 10] rfl ?_
        exact hK58 x2 x3 x4 x5 x6 x7 x8 (0 : Int32) z100 hw
      · have hw := hw.2 c99
        refine v_iload (pc2 := 323) S 11 dL_areDoors_321 rfl rfl ?_
        refine v_if_ge (pc2 := 326) (tgt := 333) S dL_areDoors_323 (by decide) rfl (fun c101 => ?_) (fun c101 => ?_)
        · have hw := hw.1 c101
          exact B333 x1 x2 x3 x4 x5 x6 x7 x8 x10 x11 x12 x13 K58 hK58 hw
        · have hw := hw.2 c101
          refine v_iload (pc2 := 328) S 11 dL_areDoors_326 rfl rfl ?_
          refine v_bipush (v := -4) (pc2 := 330) S dL_areDoors_328 (by decide) rfl ?_
          refine v_icmp_ne (pc2 := 333) (tgt := 508) S dL_areDoors_330 (by decide) rfl (fun c152 => ?_) (fun c152 => ?_)
          · have hw := hw.1 c152
            refine v_iconst (v := 0) (pc2 := 509) S dL_areDoors_508 (by decide) rfl ?_
            refine v_istore (lv2 := [(0, .ref a0.1), (1, .int x1), (2, .int x2), (3, .int x3), (4, .int x4), (5, .int x5), (6, .int x6), (7, .int x7), (8, .int x8), (9, .int (0 : Int32)), (10, .int x10), (11, .int x11), (12, .int x12), (13, .int x13)]) (pc2 := 511) S dL_areDoors_509 (by decide) [1, 2, 3, 4, 5, 6, 7, 8, 9, 0, 10, 11, 12, 13] rfl rfl ?_
            obtain ⟨z153, ez153⟩ : ∃ y : Int32, y = x10 + (1 : Int32) := ⟨_, rfl⟩
            have hw := hw z153 ez153
            refine v_iinc (v := z153) (lv2 := [(0, .ref a0.1), (1, .int x1), (2, .int x2), (3, .int x3), (4, .int x4), (5, .int x5), (6, .int x6), (7, .int x7), (8, .int x8), (9, .int (0 : Int32)), (10, .int z153), (11, .int x11), (12, .int x12), (13, .int x13)]) (pc2 := 514) S 10 dL_areDoors_511 rfl (by rw [ez153]; rfl) (by decide) [1, 2, 3, 4, 5, 6, 7, 8, 9, 10, 0, 11, 12, 13] rfl rfl ?_
            refine v_goto (tgt := 58) S dL_areDoors_514 (by decide) ?_
            refine v_lv [(0, .ref a0.1), (1, .int x1), (2, .int x2), (3, .int x3), (4, .int x4), (5, .int x5), (6, .int x6), (7, .int x7), (8, .int x8), (9, .int (0 : Int32)), (10, .int z153)] [0, 1, 2, 3, 4, 5, 6, 7, 8, 9, 10] rfl ?_
            exact hK58 x2 x3 x4 x5 x6 x7 x8 (0 : Int32) z153 hw
          · have hw := hw.2 c152
            exact B333 x1 x2 x3 x4 x5 x6 x7 x8 x10 x11 x12 x13 K58 hK58 hw
  have B237 : ∀ (x1 : Int32) (x2 : Int32) (x3 : Int32) (x4 : Int32) (x5 : Int32) (x6 : Int32) (x7 : Int32) (x8 : Int32) (x10 : Int32) (x11 : Int32) (x12 : Int32) (x13 : Int32) (t0 : Int32) (t1 : Int32) (K58 : Int32 → Int32 → Int32 → Int32 → Int32 → Int32 → Int32 → Int32 → Int32 → Prop) (hK58 : ∀ (y0 : Int32) (y1 : Int32) (y2 : Int32) (y3 : Int32) (y4 : Int32) (y5 : Int32) (y6 : Int32) (y7 : Int32) (y8 : Int32), K58 y0 y1 y2 y3 y4 y5 y6 y7 y8 → V p l e { frames := 4, cells := 0, slots := 0, locals := 93 } s m args below meth c G (va_A (wCD G a0 v0.1 v0.2.1 v0.2.2.1 v0.2.2.2.1 v0.2.2.2.2.1 v0.2.2.2.2.2.1 v0.2.2.2.2.2.2) s.heap.size) 15 0 0 (MQ below (EQ G (wCD G a0 v0.1 v0.2.1 v0.2.2.1 v0.2.2.2.1 v0.2.2.2.2.1 v0.2.2.2.2.2.1 v0.2.2.2.2.2.2) s.heap.size (PB (fun _ : Unit => wCD G a0 v0.1 v0.2.1 v0.2.2.1 v0.2.2.2.1 v0.2.2.2.2.1 v0.2.2.2.2.2.1 v0.2.2.2.2.2.2) (fun r _ => Q r))) args s 0 0 (va_A (wCD G a0 v0.1 v0.2.1 v0.2.2.1 v0.2.2.2.1 v0.2.2.2.2.1 v0.2.2.2.2.2.1 v0.2.2.2.2.2.2) s.heap.size)) (wCD G a0 v0.1 v0.2.1 v0.2.2.1 v0.2.2.2.1 v0.2.2.2.2.1 v0.2.2.2.2.2.1 v0.2.2.2.2.2.2) 58 [(0, .ref a0.1), (1, .int x1), (2, .int y0), (3, .int y1), (4, .int y2), (5, .int y3), (6, .int y4), (7, .int y5), (8, .int y6), (9, .int y7), (10, .int y8)] []), wp_L_areDoors_B237 v0 x1 x2 x3 x4 x5 x6 x7 x8 x10 x11 x12 x13 t0 t1 Q K58 → V p l e { frames := 4, cells := 0, slots := 0, locals := 93 } s m args below meth c G (va_A (wCD G a0 v0.1 v0.2.1 v0.2.2.1 v0.2.2.2.1 v0.2.2.2.2.1 v0.2.2.2.2.2.1 v0.2.2.2.2.2.2) s.heap.size) 15 0 0 (MQ below (EQ G (wCD G a0 v0.1 v0.2.1 v0.2.2.1 v0.2.2.2.1 v0.2.2.2.2.1 v0.2.2.2.2.2.1 v0.2.2.2.2.2.2) s.heap.size (PB (fun _ : Unit => wCD G a0 v0.1 v0.2.1 v0.2.2.1 v0.2.2.2.1 v0.2.2.2.2.1 v0.2.2.2.2.2.1 v0.2.2.2.2.2.2) (fun r _ => Q r))) args s 0 0 (va_A (wCD G a0 v0.1 v0.2.1 v0.2.2.1 v0.2.2.2.1 v0.2.2.2.2.1 v0.2.2.2.2.2.1 v0.2.2.2.2.2.2) s.heap.size)) (wCD G a0 v0.1 v0.2.1 v0.2.2.1 v0.2.2.2.1 v0.2.2.2.2.1 v0.2.2.2.2.2.1 v0.2.2.2.2.2.2) 237 [(0, .ref a0.1), (1, .int x1), (2, .int x2), (3, .int x3), (4, .int x4), (5, .int x5), (6, .int x6), (7, .int x7), (8, .int x8), (10, .int x10), (11, .int x11), (12, .int x12), (13, .int x13)] [.int t1, .int t0] := by
    intro x1 x2 x3 x4 x5 x6 x7 x8 x10 x11 x12 x13 t0 t1 K58 hK58 hw
    refine v_icmp_ne (pc2 := 240) (tgt := 508) S dL_areDoors_237 (by decide) rfl (fun c76 => ?_) (fun c76 => ?_)
    · have hw := hw.1 c76
      refine v_iconst (v := 0) (pc2 := 509) S dL_areDoors_508 (by decide) rfl ?_
      refine v_istore (lv2 := [(0, .ref a0.1), (1, .int x1), (2, .int x2), (3, .int x3), (4, .int x4), (5, .int x5), (6, .int x6), (7, .int x7), (8, .int x8), (9, .int (0 : Int32)), (10, .int x10), (11, .int x11), (12, .int x12), (13, .int x13)]) (pc2 := 511) S dL_areDoors_509 (by decide) [1, 2, 3, 4, 5, 6, 7, 8, 9, 0, 10, 11, 12, 13] rfl rfl ?_
      obtain ⟨z77, ez77⟩ : ∃ y : Int32, y = x10 + (1 : Int32) := ⟨_, rfl⟩
      have hw := hw z77 ez77
      refine v_iinc (v := z77) (lv2 := [(0, .ref a0.1), (1, .int x1), (2, .int x2), (3, .int x3), (4, .int x4), (5, .int x5), (6, .int x6), (7, .int x7), (8, .int x8), (9, .int (0 : Int32)), (10, .int z77), (11, .int x11), (12, .int x12), (13, .int x13)]) (pc2 := 514) S 10 dL_areDoors_511 rfl (by rw [ez77]; rfl) (by decide) [1, 2, 3, 4, 5, 6, 7, 8, 9, 10, 0, 11, 12, 13] rfl rfl ?_
      refine v_goto (tgt := 58) S dL_areDoors_514 (by decide) ?_
      refine v_lv [(0, .ref a0.1), (1, .int x1), (2, .int x2), (3, .int x3), (4, .int x4), (5, .int x5), (6, .int x6), (7, .int x7), (8, .int x8), (9, .int (0 : Int32)), (10, .int z77)] [0, 1, 2, 3, 4, 5, 6, 7, 8, 9, 10] rfl ?_
      exact hK58 x2 x3 x4 x5 x6 x7 x8 (0 : Int32) z77 hw
    · have hw := hw.2 c76
      refine v_aload_n (pc2 := 241) S 0 dL_areDoors_240 rfl rfl rfl ?_
      refine v_iload (pc2 := 243) S 9 dL_areDoors_241 rfl rfl ?_
      refine v_iconst (v := 1) (pc2 := 244) S dL_areDoors_243 (by decide) rfl ?_
      refine v_callV (pc2 := 247) (As := [.int x10, .int (1 : Int32)]) (rest := []) S (c_X8_door l G a0 v0 x10 (1 : Int32) _ hw) mf_X8_door u_484 u_485 u_486 0 8 rfl rfl rfl rfl ⟨rfl, rfl⟩ ⟨Nat.le_of_ble_eq_true rfl, Nat.le_of_ble_eq_true rfl⟩ ⟨Nat.le_of_ble_eq_true rfl, Nat.le_of_ble_eq_true rfl⟩ (Nat.le_of_ble_eq_true rfl) dL_areDoors_244 (frW _) rfl (pi (fun r78 u79 hw => ?_))
      refine v_to (wCD G a0 v0.1 v0.2.1 v0.2.2.1 v0.2.2.2.1 v0.2.2.2.2.1 v0.2.2.2.2.2.1 v0.2.2.2.2.2.2) 247 [(0, .ref a0.1), (1, .int x1), (2, .int x2), (3, .int x3), (4, .int x4), (5, .int x5), (6, .int x6), (7, .int x7), (8, .int x8), (10, .int x10), (11, .int x11), (12, .int x12), (13, .int x13)] _ [.int r78] rfl rfl rfl rfl ?_
      refine v_if_lt (pc2 := 250) (tgt := 508) S dL_areDoors_247 (by decide) rfl (fun c80 => ?_) (fun c80 => ?_)
      · have hw := hw.1 c80
        refine v_iconst (v := 0) (pc2 := 509) S dL_areDoors_508 (by decide) rfl ?_
        refine v_istore (lv2 := [(0, .ref a0.1), (1, .int x1), (2, .int x2), (3, .int x3), (4, .int x4), (5, .int x5), (6, .int x6), (7, .int x7), (8, .int x8), (9, .int (0 : Int32)), (10, .int x10), (11, .int x11), (12, .int x12), (13, .int x13)]) (pc2 := 511) S dL_areDoors_509 (by decide) [1, 2, 3, 4, 5, 6, 7, 8, 9, 0, 10, 11, 12, 13] rfl rfl ?_
        obtain ⟨z81, ez81⟩ : ∃ y : Int32, y = x10 + (1 : Int32) := ⟨_, rfl⟩
        have hw := hw z81 ez81
        refine v_iinc (v := z81) (lv2 := [(0, .ref a0.1), (1, .int x1), (2, .int x2), (3, .int x3), (4, .int x4), (5, .int x5), (6, .int x6), (7, .int x7), (8, .int x8), (9, .int (0 : Int32)), (10, .int z81), (11, .int x11), (12, .int x12), (13, .int x13)]) (pc2 := 514) S 10 dL_areDoors_511 rfl (by rw [ez81]; rfl) (by decide) [1, 2, 3, 4, 5, 6, 7, 8, 9, 10, 0, 11, 12, 13] rfl rfl ?_
        refine v_goto (tgt := 58) S dL_areDoors_514 (by decide) ?_
        refine v_lv [(0, .ref a0.1), (1, .int x1), (2, .int x2), (3, .int x3), (4, .int x4), (5, .int x5), (6, .int x6), (7, .int x7), (8, .int x8), (9, .int (0 : Int32)), (10, .int z81)] [0, 1, 2, 3, 4, 5, 6, 7, 8, 9, 10] rfl ?_
        exact hK58 x2 x3 x4 x5 x6 x7 x8 (0 : Int32) z81 hw
      · have hw := hw.2 c80
        refine v_aload_n (pc2 := 251) S 0 dL_areDoors_250 rfl rfl rfl ?_
        refine v_iload (pc2 := 253) S 9 dL_areDoors_251 rfl rfl ?_
        refine v_iconst (v := 1) (pc2 := 254) S dL_areDoors_253 (by decide) rfl ?_
        refine v_callV (pc2 := 257) (As := [.int x10, .int (1 : Int32)]) (rest := []) S (c_X8_door l G a0 v0 x10 (1 : Int32) _ hw) mf_X8_door u_484 u_485 u_486 0 8 rfl rfl rfl rfl ⟨rfl, rfl⟩ ⟨Nat.le_of_ble_eq_true rfl, Nat.le_of_ble_eq_true rfl⟩ ⟨Nat.le_of_ble_eq_true rfl, Nat.le_of_ble_eq_true rfl⟩ (Nat.le_of_ble_eq_true rfl) dL_areDoors_254 (frW _) rfl (pi (fun r82 u83 hw => ?_))
        refine v_to (wCD G a0 v0.1 v0.2.1 v0.2.2.1 v0.2.2.2.1 v0.2.2.2.2.1 v0.2.2.2.2.2.1 v0.2.2.2.2.2.2) 257 [(0, .ref a0.1), (1, .int x1), (2, .int x2), (3, .int x3), (4, .int x4), (5, .int x5), (6, .int x6), (7, .int x7), (8, .int x8), (10, .int x10), (11, .int x11), (12, .int x12), (13, .int x13)] _ [.int r82] rfl rfl rfl rfl ?_
        refine v_aload_n (pc2 := 258) S 0 dL_areDoors_257 rfl rfl rfl ?_
        refine v_iload (pc2 := 260) S 9 dL_areDoors_258 rfl rfl ?_
        refine v_iconst (v := 2) (pc2 := 261) S dL_areDoors_260 (by decide) rfl ?_
        refine v_callV (pc2 := 264) (As := [.int x10, .int (2 : Int32)]) (rest := [.int r82]) S (c_X8_door l G a0 v0 x10 (2 : Int32) _ hw) mf_X8_door u_484 u_485 u_486 0 8 rfl rfl rfl rfl ⟨rfl, rfl⟩ ⟨Nat.le_of_ble_eq_true rfl, Nat.le_of_ble_eq_true rfl⟩ ⟨Nat.le_of_ble_eq_true rfl, Nat.le_of_ble_eq_true rfl⟩ (Nat.le_of_ble_eq_true rfl) dL_areDoors_261 (frW _) rfl (pi (fun r84 u85 hw => ?_))
        refine v_to (wCD G a0 v0.1 v0.2.1 v0.2.2.1 v0.2.2.2.1 v0.2.2.2.2.1 v0.2.2.2.2.2.1 v0.2.2.2.2.2.2) 264 [(0, .ref a0.1), (1, .int x1), (2, .int x2), (3, .int x3), (4, .int x4), (5, .int x5), (6, .int x6), (7, .int x7), (8, .int x8), (10, .int x10), (11, .int x11), (12, .int x12), (13, .int x13)] _ [.int r84, .int r82] rfl rfl rfl rfl ?_
        refine v_icmp_ge (pc2 := 267) (tgt := 508) S dL_areDoors_264 (by decide) rfl (fun c86 => ?_) (fun c86 => ?_)
        · have hw := hw.1 c86
          refine v_iconst (v := 0) (pc2 := 509) S dL_areDoors_508 (by decide) rfl ?_
          refine v_istore (lv2 := [(0, .ref a0.1), (1, .int x1), (2, .int x2), (3, .int x3), (4, .int x4), (5, .int x5), (6, .int x6), (7, .int x7), (8, .int x8), (9, .int (0 : Int32)), (10, .int x10), (11, .int x11), (12, .int x12), (13, .int x13)]) (pc2 := 511) S dL_areDoors_509 (by decide) [1, 2, 3, 4, 5, 6, 7, 8, 9, 0, 10, 11, 12, 13] rfl rfl ?_
          obtain ⟨z87, ez87⟩ : ∃ y : Int32, y = x10 + (1 : Int32) := ⟨_, rfl⟩
          have hw := hw z87 ez87
          refine v_iinc (v := z87) (lv2 := [(0, .ref a0.1), (1, .int x1), (2, .int x2), (3, .int x3), (4, .int x4), (5, .int x5), (6, .int x6), (7, .int x7), (8, .int x8), (9, .int (0 : Int32)), (10, .int z87), (11, .int x11), (12, .int x12), (13, .int x13)]) (pc2 := 514) S 10 dL_areDoors_511 rfl (by rw [ez87]; rfl) (by decide) [1, 2, 3, 4, 5, 6, 7, 8, 9, 10, 0, 11, 12, 13] rfl rfl ?_
          refine v_goto (tgt := 58) S dL_areDoors_514 (by decide) ?_
          refine v_lv [(0, .ref a0.1), (1, .int x1), (2, .int x2), (3, .int x3), (4, .int x4), (5, .int x5), (6, .int x6), (7, .int x7), (8, .int x8), (9, .int (0 : Int32)), (10, .int z87)] [0, 1, 2, 3, 4, 5, 6, 7, 8, 9, 10] rfl ?_
          exact hK58 x2 x3 x4 x5 x6 x7 x8 (0 : Int32) z87 hw
        · have hw := hw.2 c86
          refine v_aload_n (pc2 := 268) S 0 dL_areDoors_267 rfl rfl rfl ?_
          refine v_iload (pc2 := 270) S 9 dL_areDoors_268 rfl rfl ?_
          refine v_iconst (v := 2) (pc2 := 271) S dL_areDoors_270 (by decide) rfl ?_
          refine v_callV (pc2 := 274) (As := [.int x10, .int (2 : Int32)]) (rest := []) S (c_X8_door l G a0 v0 x10 (2 : Int32) _ hw) mf_X8_door u_484 u_485 u_486 0 8 rfl rfl rfl rfl ⟨rfl, rfl⟩ ⟨Nat.le_of_ble_eq_true rfl, Nat.le_of_ble_eq_true rfl⟩ ⟨Nat.le_of_ble_eq_true rfl, Nat.le_of_ble_eq_true rfl⟩ (Nat.le_of_ble_eq_true rfl) dL_areDoors_271 (frW _) rfl (pi (fun r88 u89 hw => ?_))
          refine v_to (wCD G a0 v0.1 v0.2.1 v0.2.2.1 v0.2.2.2.1 v0.2.2.2.2.1 v0.2.2.2.2.2.1 v0.2.2.2.2.2.2) 274 [(0, .ref a0.1), (1, .int x1), (2, .int x2), (3, .int x3), (4, .int x4), (5, .int x5), (6, .int x6), (7, .int x7), (8, .int x8), (10, .int x10), (11, .int x11), (12, .int x12), (13, .int x13)] _ [.int r88] rfl rfl rfl rfl ?_
          refine v_bipush (v := 6) (pc2 := 276) S dL_areDoors_274 (by decide) rfl ?_
          refine v_icmp_ge (pc2 := 279) (tgt := 508) S dL_areDoors_276 (by decide) rfl (fun c90 => ?_) (fun c90 => ?_)
          · have hw := hw.1 c90
            refine v_iconst (v := 0) (pc2 := 509) S dL_areDoors_508 (by decide) rfl ?_
            refine v_istore (lv2 := [(0, .ref a0.1), (1, .int x1), (2, .int x2), (3, .int x3), (4, .int x4), (5, .int x5), (6, .int x6), (7, .int x7), (8, .int x8), (9, .int (0 : Int32)), (10, .int x10), (11, .int x11), (12, .int x12), (13, .int x13)]) (pc2 := 511) S dL_areDoors_509 (by decide) [1, 2, 3, 4, 5, 6, 7, 8, 9, 0, 10, 11, 12, 13] rfl rfl ?_
            obtain ⟨z91, ez91⟩ : ∃ y : Int32, y = x10 + (1 : Int32) := ⟨_, rfl⟩
            have hw := hw z91 ez91
            refine v_iinc (v := z91) (lv2 := [(0, .ref a0.1), (1, .int x1), (2, .int x2), (3, .int x3), (4, .int x4), (5, .int x5), (6, .int x6), (7, .int x7), (8, .int x8), (9, .int (0 : Int32)), (10, .int z91), (11, .int x11), (12, .int x12), (13, .int x13)]) (pc2 := 514) S 10 dL_areDoors_511 rfl (by rw [ez91]; rfl) (by decide) [1, 2, 3, 4, 5, 6, 7, 8, 9, 10, 0, 11, 12, 13] rfl rfl ?_
            refine v_goto (tgt := 58) S dL_areDoors_514 (by decide) ?_
            refine v_lv [(0, .ref a0.1), (1, .int x1), (2, .int x2), (3, .int x3), (4, .int x4), (5, .int x5), (6, .int x6), (7, .int x7), (8, .int x8), (9, .int (0 : Int32)), (10, .int z91)] [0, 1, 2, 3, 4, 5, 6, 7, 8, 9, 10] rfl ?_
            exact hK58 x2 x3 x4 x5 x6 x7 x8 (0 : Int32) z91 hw
          · have hw := hw.2 c90
            refine v_iload (pc2 := 281) S 11 dL_areDoors_279 rfl rfl ?_
            refine v_iload (pc2 := 283) S 9 dL_areDoors_281 rfl rfl ?_
            refine v_icmp_eq (pc2 := 286) (tgt := 508) S dL_areDoors_283 (by decide) rfl (fun c92 => ?_) (fun c92 => ?_)
            · have hw := hw.1 c92
              refine v_iconst (v := 0) (pc2 := 509) S dL_areDoors_508 (by decide) rfl ?_
              refine v_istore (lv2 := [(0, .ref a0.1), (1, .int x1), (2, .int x2), (3, .int x3), (4, .int x4), (5, .int x5), (6, .int x6), (7, .int x7), (8, .int x8), (9, .int (0 : Int32)), (10, .int x10), (11, .int x11), (12, .int x12), (13, .int x13)]) (pc2 := 511) S dL_areDoors_509 (by decide) [1, 2, 3, 4, 5, 6, 7, 8, 9, 0, 10, 11, 12, 13] rfl rfl ?_
              obtain ⟨z93, ez93⟩ : ∃ y : Int32, y = x10 + (1 : Int32) := ⟨_, rfl⟩
              have hw := hw z93 ez93
              refine v_iinc (v := z93) (lv2 := [(0, .ref a0.1), (1, .int x1), (2, .int x2), (3, .int x3), (4, .int x4), (5, .int x5), (6, .int x6), (7, .int x7), (8, .int x8), (9, .int (0 : Int32)), (10, .int z93), (11, .int x11), (12, .int x12), (13, .int x13)]) (pc2 := 514) S 10 dL_areDoors_511 rfl (by rw [ez93]; rfl) (by decide) [1, 2, 3, 4, 5, 6, 7, 8, 9, 10, 0, 11, 12, 13] rfl rfl ?_
              refine v_goto (tgt := 58) S dL_areDoors_514 (by decide) ?_
              refine v_lv [(0, .ref a0.1), (1, .int x1), (2, .int x2), (3, .int x3), (4, .int x4), (5, .int x5), (6, .int x6), (7, .int x7), (8, .int x8), (9, .int (0 : Int32)), (10, .int z93)] [0, 1, 2, 3, 4, 5, 6, 7, 8, 9, 10] rfl ?_
              exact hK58 x2 x3 x4 x5 x6 x7 x8 (0 : Int32) z93 hw
            · have hw := hw.2 c92
              refine v_iload (pc2 := 288) S 12 dL_areDoors_286 rfl rfl ?_
              refine v_iload (pc2 := 290) S 9 dL_areDoors_288 rfl rfl ?_
              refine v_icmp_eq (pc2 := 293) (tgt := 508) S dL_areDoors_290 (by decide) rfl (fun c94 => ?_) (fun c94 => ?_)
              · have hw := hw.1 c94
                refine v_iconst (v := 0) (pc2 := 509) S dL_areDoors_508 (by decide) rfl ?_
                refine v_istore (lv2 := [(0, .ref a0.1), (1, .int x1), (2, .int x2), (3, .int x3), (4, .int x4), (5, .int x5), (6, .int x6), (7, .int x7), (8, .int x8), (9, .int (0 : Int32)), (10, .int x10), (11, .int x11), (12, .int x12), (13, .int x13)]) (pc2 := 511) S dL_areDoors_509 (by decide) [1, 2, 3, 4, 5, 6, 7, 8, 9, 0, 10, 11, 12, 13] rfl rfl ?_
                obtain ⟨z95, ez95⟩ : ∃ y : Int32, y = x10 + (1 : Int32) := ⟨_, rfl⟩
                have hw := hw z95 ez95
                refine v_iinc (v := z95) (lv2 := [(0, .ref a0.1), (1, .int x1), (2, .int x2), (3, .int x3), (4, .int x4), (5, .int x5), (6, .int x6), (7, .int x7), (8, .int x8), (9, .int (0 : Int32)), (10, .int z95), (11, .int x11), (12, .int x12), (13, .int x13)]) (pc2 := 514) S 10 dL_areDoors_511 rfl (by rw [ez95]; rfl) (by decide) [1, 2, 3, 4, 5, 6, 7, 8, 9, 10, 0, 11, 12, 13] rfl rfl ?_
                refine v_goto (tgt := 58) S dL_areDoors_514 (by decide) ?_
                refine v_lv [(0, .ref a0.1), (1, .int x1), (2, .int x2), (3, .int x3), (4, .int x4), (5, .int x5), (6, .int x6), (7, .int x7), (8, .int x8), (9, .int (0 : Int32)), (10, .int z95)] [0, 1, 2, 3, 4, 5, 6, 7, 8, 9, 10] rfl ?_
                exact hK58 x2 x3 x4 x5 x6 x7 x8 (0 : Int32) z95 hw
              · have hw := hw.2 c94
                refine v_iload (pc2 := 295) S 11 dL_areDoors_293 rfl rfl ?_
                refine v_iload (pc2 := 297) S 12 dL_areDoors_295 rfl rfl ?_
                refine v_icmp_ne (pc2 := 300) (tgt := 307) S dL_areDoors_297 (by decide) rfl (fun c96 => ?_) (fun c96 => ?_)
                · have hw := hw.1 c96
                  exact B307 x1 x2 x3 x4 x5 x6 x7 x8 x10 x11 x12 x13 K58 hK58 hw
                · have hw := hw.2 c96
                  refine v_iload (pc2 := 302) S 11 dL_areDoors_300 rfl rfl ?_
                  refine v_bipush (v := -4) (pc2 := 304) S dL_areDoors_302 (by decide) rfl ?_
                  refine v_icmp_ne (pc2 := 307) (tgt := 508) S dL_areDoors_304 (by decide) rfl (fun c154 => ?_) (fun c154 => ?_)
                  · have hw := hw.1 c154
                    refine v_iconst (v := 0) (pc2 := 509) S dL_areDoors_508 (by decide) rfl ?_
                    refine v_istore (lv2 := [(0, .ref a0.1), (1, .int x1), (2, .int x2), (3, .int x3), (4, .int x4), (5, .int x5), (6, .int x6), (7, .int x7), (8, .int x8), (9, .int (0 : Int32)), (10, .int x10), (11, .int x11), (12, .int x12), (13, .int x13)]) (pc2 := 511) S dL_areDoors_509 (by decide) [1, 2, 3, 4, 5, 6, 7, 8, 9, 0, 10, 11, 12, 13] rfl rfl ?_
                    obtain ⟨z155, ez155⟩ : ∃ y : Int32, y = x10 + (1 : Int32) := ⟨_, rfl⟩
                    have hw := hw z155 ez155
                    refine v_iinc (v := z155) (lv2 := [(0, .ref a0.1), (1, .int x1), (2, .int x2), (3, .int x3), (4, .int x4), (5, .int x5), (6, .int x6), (7, .int x7), (8, .int x8), (9, .int (0 : Int32)), (10, .int z155), (11, .int x11), (12, .int x12), (13, .int x13)]) (pc2 := 514) S 10 dL_areDoors_511 rfl (by rw [ez155]; rfl) (by decide) [1, 2, 3, 4, 5, 6, 7, 8, 9, 10, 0, 11, 12, 13] rfl rfl ?_
                    refine v_goto (tgt := 58) S dL_areDoors_514 (by decide) ?_
                    refine v_lv [(0, .ref a0.1), (1, .int x1), (2, .int x2), (3, .int x3), (4, .int x4), (5, .int x5), (6, .int x6), (7, .int x7), (8, .int x8), (9, .int (0 : Int32)), (10, .int z155)] [0, 1, 2, 3, 4, 5, 6, 7, 8, 9, 10] rfl ?_
                    exact hK58 x2 x3 x4 x5 x6 x7 x8 (0 : Int32) z155 hw
                  · have hw := hw.2 c154
                    exact B307 x1 x2 x3 x4 x5 x6 x7 x8 x10 x11 x12 x13 K58 hK58 hw
  have B155 : ∀ (x1 : Int32) (x2 : Int32) (x4 : Int32) (x5 : Int32) (x6 : Int32) (x7 : Int32) (x8 : Int32) (x10 : Int32) (x11 : Int32) (x12 : Int32) (x13 : Int32) (t0 : Int32) (t1 : Int32) (K58 : Int32 → Int32 → Int32 → Int32 → Int32 → Int32 → Int32 → Int32 → Int32 → Prop) (hK58 : ∀ (y0 : Int32) (y1 : Int32) (y2 : Int32) (y3 : Int32) (y4 : Int32) (y5 : Int32) (y6 : Int32) (y7 : Int32) (y8 : Int32), K58 y0 y1 y2 y3 y4 y5 y6 y7 y8 → V p l e { frames := 4, cells := 0, slots := 0, locals := 93 } s m args below meth c G (va_A (wCD G a0 v0.1 v0.2.1 v0.2.2.1 v0.2.2.2.1 v0.2.2.2.2.1 v0.2.2.2.2.2.1 v0.2.2.2.2.2.2) s.heap.size) 15 0 0 (MQ below (EQ G (wCD G a0 v0.1 v0.2.1 v0.2.2.1 v0.2.2.2.1 v0.2.2.2.2.1 v0.2.2.2.2.2.1 v0.2.2.2.2.2.2) s.heap.size (PB (fun _ : Unit => wCD G a0 v0.1 v0.2.1 v0.2.2.1 v0.2.2.2.1 v0.2.2.2.2.1 v0.2.2.2.2.2.1 v0.2.2.2.2.2.2) (fun r _ => Q r))) args s 0 0 (va_A (wCD G a0 v0.1 v0.2.1 v0.2.2.1 v0.2.2.2.1 v0.2.2.2.2.1 v0.2.2.2.2.2.1 v0.2.2.2.2.2.2) s.heap.size)) (wCD G a0 v0.1 v0.2.1 v0.2.2.1 v0.2.2.2.1 v0.2.2.2.2.1 v0.2.2.2.2.2.1 v0.2.2.2.2.2.2) 58 [(0, .ref a0.1), (1, .int x1), (2, .int y0), (3, .int y1), (4, .int y2), (5, .int y3), (6, .int y4), (7, .int y5), (8, .int y6), (9, .int y7), (10, .int y8)] []), wp_L_areDoors_B155 v0 x1 x2 x4 x5 x6 x7 x8 x10 x11 x12 x13 t0 t1 Q K58 → V p l e { frames := 4, cells := 0, slots := 0, locals := 93 } s m args below meth c G (va_A (wCD G a0 v0.1 v0.2.1 v0.2.2.1 v0.2.2.2.1 v0.2.2.2.2.1 v0.2.2.2.2.2.1 v0.2.2.2.2.2.2) s.heap.size) 15 0 0 (MQ below (EQ G (wCD G a0 v0.1 v0.2.1 v0.2.2.1 v0.2.2.2.1 v0.2.2.2.2.1 v0.2.2.2.2.2.1 v0.2.2.2.2.2.2) s.heap.size (PB (fun _ : Unit => wCD G a0 v0.1 v0.2.1 v0.2.2.1 v0.2.2.2.1 v0.2.2.2.2.1 v0.2.2.2.2.2.1 v0.2.2.2.2.2.2) (fun r _ => Q r))) args s 0 0 (va_A (wCD G a0 v0.1 v0.2.1 v0.2.2.1 v0.2.2.2.1 v0.2.2.2.2.1 v0.2.2.2.2.2.1 v0.2.2.2.2.2.2) s.heap.size)) (wCD G a0 v0.1 v0.2.1 v0.2.2.1 v0.2.2.2.1 v0.2.2.2.2.1 v0.2.2.2.2.2.1 v0.2.2.2.2.2.2) 155 [(0, .ref a0.1), (1, .int x1), (2, .int x2), (4, .int x4), (5, .int x5), (6, .int x6), (7, .int x7), (8, .int x8), (10, .int x10), (11, .int x11), (12, .int x12), (13, .int x13)] [.int t1, .int t0] := by
    intro x1 x2 x4 x5 x6 x7 x8 x10 x11 x12 x13 t0 t1 K58 hK58 hw
    refine v_iadd (pc2 := 156) S dL_areDoors_155 rfl ?_
    refine v_nm (fun z59 ez59 => ?_)
    have hw := hw z59 ez59
    refine v_istore_n (lv2 := [(0, .ref a0.1), (1, .int x1), (2, .int x2), (3, .int z59), (4, .int x4), (5, .int x5), (6, .int x6), (7, .int x7), (8, .int x8), (10, .int x10), (11, .int x11), (12, .int x12), (13, .int x13)]) (pc2 := 157) S dL_areDoors_156 rfl (by decide) [1, 2, 3, 0, 4, 5, 6, 7, 8, 9, 10, 11, 12] rfl rfl ?_
    refine v_iload (pc2 := 159) S 5 dL_areDoors_157 rfl rfl ?_
    refine v_aload_n (pc2 := 160) S 0 dL_areDoors_159 rfl rfl rfl ?_
    refine v_iload (pc2 := 162) S 9 dL_areDoors_160 rfl rfl ?_
    refine v_bipush (v := 6) (pc2 := 164) S dL_areDoors_162 (by decide) rfl ?_
    refine v_callV (pc2 := 167) (As := [.int x10, .int (6 : Int32)]) (rest := [.int x5]) S (c_X8_door l G a0 v0 x10 (6 : Int32) _ hw) mf_X8_door u_484 u_485 u_486 0 8 rfl rfl rfl rfl ⟨rfl, rfl⟩ ⟨Nat.le_of_ble_eq_true rfl, Nat.le_of_ble_eq_true rfl⟩ ⟨Nat.le_of_ble_eq_true rfl, Nat.le_of_ble_eq_true rfl⟩ (Nat.le_of_ble_eq_true rfl) dL_areDoors_164 (frW _) rfl (pi (fun r60 u61 hw => ?_))
    refine v_to (wCD G a0 v0.1 v0.2.1 v0.2.2.1 v0.2.2.2.1 v0.2.2.2.2.1 v0.2.2.2.2.2.1 v0.2.2.2.2.2.2) 167 [(0, .ref a0.1), (1, .int x1), (2, .int x2), (3, .int z59), (4, .int x4), (5, .int x5), (6, .int x6), (7, .int x7), (8, .int x8), (10, .int x10), (11, .int x11), (12, .int x12), (13, .int x13)] _ [.int r60, .int x5] rfl rfl rfl rfl ?_
    refine v_iadd (pc2 := 168) S dL_areDoors_167 rfl ?_
    refine v_nm (fun z62 ez62 => ?_)
    have hw := hw z62 ez62
    refine v_istore (lv2 := [(0, .ref a0.1), (1, .int x1), (2, .int x2), (3, .int z59), (4, .int x4), (5, .int z62), (6, .int x6), (7, .int x7), (8, .int x8), (10, .int x10), (11, .int x11), (12, .int x12), (13, .int x13)]) (pc2 := 170) S dL_areDoors_168 (by decide) [1, 2, 3, 4, 5, 0, 6, 7, 8, 9, 10, 11, 12] rfl rfl ?_
    refine v_iload (pc2 := 172) S 4 dL_areDoors_170 rfl rfl ?_
    refine v_aload_n (pc2 := 173) S 0 dL_areDoors_172 rfl rfl rfl ?_
    refine v_iload (pc2 := 175) S 9 dL_areDoors_173 rfl rfl ?_
    refine v_bipush (v := 7) (pc2 := 177) S dL_areDoors_175 (by decide) rfl ?_
    refine v_callV (pc2 := 180) (As := [.int x10, .int (7 : Int32)]) (rest := [.int x4]) S (c_X8_door l G a0 v0 x10 (7 : Int32) _ hw) mf_X8_door u_484 u_485 u_486 0 8 rfl rfl rfl rfl ⟨rfl, rfl⟩ ⟨Nat.le_of_ble_eq_true rfl, Nat.le_of_ble_eq_true rfl⟩ ⟨Nat.le_of_ble_eq_true rfl, Nat.le_of_ble_eq_true rfl⟩ (Nat.le_of_ble_eq_true rfl) dL_areDoors_177 (frW _) rfl (pi (fun r63 u64 hw => ?_))
    refine v_to (wCD G a0 v0.1 v0.2.1 v0.2.2.1 v0.2.2.2.1 v0.2.2.2.2.1 v0.2.2.2.2.2.1 v0.2.2.2.2.2.2) 180 [(0, .ref a0.1), (1, .int x1), (2, .int x2), (3, .int z59), (4, .int x4), (5, .int z62), (6, .int x6), (7, .int x7), (8, .int x8), (10, .int x10), (11, .int x11), (12, .int x12), (13, .int x13)] _ [.int r63, .int x4] rfl rfl rfl rfl ?_
    refine v_iadd (pc2 := 181) S dL_areDoors_180 rfl ?_
    refine v_nm (fun z65 ez65 => ?_)
    have hw := hw z65 ez65
    refine v_istore (lv2 := [(0, .ref a0.1), (1, .int x1), (2, .int x2), (3, .int z59), (4, .int z65), (5, .int z62), (6, .int x6), (7, .int x7), (8, .int x8), (10, .int x10), (11, .int x11), (12, .int x12), (13, .int x13)]) (pc2 := 183) S dL_areDoors_181 (by decide) [1, 2, 3, 4, 0, 5, 6, 7, 8, 9, 10, 11, 12] rfl rfl ?_
    refine v_iload (pc2 := 185) S 6 dL_areDoors_183 rfl rfl ?_
    refine v_aload_n (pc2 := 186) S 0 dL_areDoors_185 rfl rfl rfl ?_
    refine v_iload (pc2 := 188) S 9 dL_areDoors_186 rfl rfl ?_
    refine v_iconst (v := 5) (pc2 := 189) S dL_areDoors_188 (by decide) rfl ?_
    refine v_callV (pc2 := 192) (As := [.int x10, .int (5 : Int32)]) (rest := [.int x6]) S (c_X8_door l G a0 v0 x10 (5 : Int32) _ hw) mf_X8_door u_484 u_485 u_486 0 8 rfl rfl rfl rfl ⟨rfl, rfl⟩ ⟨Nat.le_of_ble_eq_true rfl, Nat.le_of_ble_eq_true rfl⟩ ⟨Nat.le_of_ble_eq_true rfl, Nat.le_of_ble_eq_true rfl⟩ (Nat.le_of_ble_eq_true rfl) dL_areDoors_189 (frW _) rfl (pi (fun r66 u67 hw => ?_))
    refine v_to (wCD G a0 v0.1 v0.2.1 v0.2.2.1 v0.2.2.2.1 v0.2.2.2.2.1 v0.2.2.2.2.2.1 v0.2.2.2.2.2.2) 192 [(0, .ref a0.1), (1, .int x1), (2, .int x2), (3, .int z59), (4, .int z65), (5, .int z62), (6, .int x6), (7, .int x7), (8, .int x8), (10, .int x10), (11, .int x11), (12, .int x12), (13, .int x13)] _ [.int r66, .int x6] rfl rfl rfl rfl ?_
    refine v_iadd (pc2 := 193) S dL_areDoors_192 rfl ?_
    refine v_nm (fun z68 ez68 => ?_)
    have hw := hw z68 ez68
    refine v_istore (lv2 := [(0, .ref a0.1), (1, .int x1), (2, .int x2), (3, .int z59), (4, .int z65), (5, .int z62), (6, .int z68), (7, .int x7), (8, .int x8), (10, .int x10), (11, .int x11), (12, .int x12), (13, .int x13)]) (pc2 := 195) S dL_areDoors_193 (by decide) [1, 2, 3, 4, 5, 6, 0, 7, 8, 9, 10, 11, 12] rfl rfl ?_
    refine v_iload (pc2 := 197) S 7 dL_areDoors_195 rfl rfl ?_
    refine v_aload_n (pc2 := 198) S 0 dL_areDoors_197 rfl rfl rfl ?_
    refine v_iload (pc2 := 200) S 9 dL_areDoors_198 rfl rfl ?_
    refine v_bipush (v := 8) (pc2 := 202) S dL_areDoors_200 (by decide) rfl ?_
    refine v_callV (pc2 := 205) (As := [.int x10, .int (8 : Int32)]) (rest := [.int x7]) S (c_X8_door l G a0 v0 x10 (8 : Int32) _ hw) mf_X8_door u_484 u_485 u_486 0 8 rfl rfl rfl rfl ⟨rfl, rfl⟩ ⟨Nat.le_of_ble_eq_true rfl, Nat.le_of_ble_eq_true rfl⟩ ⟨Nat.le_of_ble_eq_true rfl, Nat.le_of_ble_eq_true rfl⟩ (Nat.le_of_ble_eq_true rfl) dL_areDoors_202 (frW _) rfl (pi (fun r69 u70 hw => ?_))
    refine v_to (wCD G a0 v0.1 v0.2.1 v0.2.2.1 v0.2.2.2.1 v0.2.2.2.2.1 v0.2.2.2.2.2.1 v0.2.2.2.2.2.2) 205 [(0, .ref a0.1), (1, .int x1), (2, .int x2), (3, .int z59), (4, .int z65), (5, .int z62), (6, .int z68), (7, .int x7), (8, .int x8), (10, .int x10), (11, .int x11), (12, .int x12), (13, .int x13)] _ [.int r69, .int x7] rfl rfl rfl rfl ?_
    refine v_iadd (pc2 := 206) S dL_areDoors_205 rfl ?_
    refine v_nm (fun z71 ez71 => ?_)
    have hw := hw z71 ez71
    refine v_istore (lv2 := [(0, .ref a0.1), (1, .int x1), (2, .int x2), (3, .int z59), (4, .int z65), (5, .int z62), (6, .int z68), (7, .int z71), (8, .int x8), (10, .int x10), (11, .int x11), (12, .int x12), (13, .int x13)]) (pc2 := 208) S dL_areDoors_206 (by decide) [1, 2, 3, 4, 5, 6, 7, 0, 8, 9, 10, 11, 12] rfl rfl ?_
    refine v_iload (pc2 := 210) S 8 dL_areDoors_208 rfl rfl ?_
    refine v_aload_n (pc2 := 211) S 0 dL_areDoors_210 rfl rfl rfl ?_
    refine v_iload (pc2 := 213) S 9 dL_areDoors_211 rfl rfl ?_
    refine v_bipush (v := 9) (pc2 := 215) S dL_areDoors_213 (by decide) rfl ?_
    refine v_callV (pc2 := 218) (As := [.int x10, .int (9 : Int32)]) (rest := [.int x8]) S (c_X8_door l G a0 v0 x10 (9 : Int32) _ hw) mf_X8_door u_484 u_485 u_486 0 8 rfl rfl rfl rfl ⟨rfl, rfl⟩ ⟨Nat.le_of_ble_eq_true rfl, Nat.le_of_ble_eq_true rfl⟩ ⟨Nat.le_of_ble_eq_true rfl, Nat.le_of_ble_eq_true rfl⟩ (Nat.le_of_ble_eq_true rfl) dL_areDoors_215 (frW _) rfl (pi (fun r72 u73 hw => ?_))
    refine v_to (wCD G a0 v0.1 v0.2.1 v0.2.2.1 v0.2.2.2.1 v0.2.2.2.2.1 v0.2.2.2.2.2.1 v0.2.2.2.2.2.2) 218 [(0, .ref a0.1), (1, .int x1), (2, .int x2), (3, .int z59), (4, .int z65), (5, .int z62), (6, .int z68), (7, .int z71), (8, .int x8), (10, .int x10), (11, .int x11), (12, .int x12), (13, .int x13)] _ [.int r72, .int x8] rfl rfl rfl rfl ?_
    refine v_iadd (pc2 := 219) S dL_areDoors_218 rfl ?_
    refine v_nm (fun z74 ez74 => ?_)
    have hw := hw z74 ez74
    refine v_istore (lv2 := [(0, .ref a0.1), (1, .int x1), (2, .int x2), (3, .int z59), (4, .int z65), (5, .int z62), (6, .int z68), (7, .int z71), (8, .int z74), (10, .int x10), (11, .int x11), (12, .int x12), (13, .int x13)]) (pc2 := 221) S dL_areDoors_219 (by decide) [1, 2, 3, 4, 5, 6, 7, 8, 0, 9, 10, 11, 12] rfl rfl ?_
    refine v_iload_n (pc2 := 222) S 1 dL_areDoors_221 rfl rfl rfl ?_
    refine v_iload (pc2 := 224) S 9 dL_areDoors_222 rfl rfl ?_
    refine v_ishr (pc2 := 225) S dL_areDoors_224 rfl ?_
    refine v_iconst (v := 1) (pc2 := 226) S dL_areDoors_225 (by decide) rfl ?_
    refine v_iand (pc2 := 227) S dL_areDoors_226 rfl ?_
    refine v_iload (pc2 := 229) S 10 dL_areDoors_227 rfl rfl ?_
    refine v_if_eq (pc2 := 232) (tgt := 236) S dL_areDoors_229 (by decide) rfl (fun c75 => ?_) (fun c75 => ?_)
    · have hw := hw.1 c75
      refine v_iconst (v := 0) (pc2 := 237) S dL_areDoors_236 (by decide) rfl ?_
      exact B237 x1 x2 z59 z65 z62 z68 z71 z74 x10 x11 x12 x13 ((x1 >>> (x10 &&& 31)) &&& (1 : Int32)) (0 : Int32) K58 hK58 hw
    · have hw := hw.2 c75
      refine v_iconst (v := 1) (pc2 := 233) S dL_areDoors_232 (by decide) rfl ?_
      refine v_goto (tgt := 237) S dL_areDoors_233 (by decide) ?_
      exact B237 x1 x2 z59 z65 z62 z68 z71 z74 x10 x11 x12 x13 ((x1 >>> (x10 &&& 31)) &&& (1 : Int32)) (1 : Int32) K58 hK58 hw
  have B141 : ∀ (x1 : Int32) (x3 : Int32) (x4 : Int32) (x5 : Int32) (x6 : Int32) (x7 : Int32) (x8 : Int32) (x10 : Int32) (x11 : Int32) (x12 : Int32) (x13 : Int32) (x14 : Int32) (t0 : Int32) (t1 : Int32) (K58 : Int32 → Int32 → Int32 → Int32 → Int32 → Int32 → Int32 → Int32 → Int32 → Prop) (hK58 : ∀ (y0 : Int32) (y1 : Int32) (y2 : Int32) (y3 : Int32) (y4 : Int32) (y5 : Int32) (y6 : Int32) (y7 : Int32) (y8 : Int32), K58 y0 y1 y2 y3 y4 y5 y6 y7 y8 → V p l e { frames := 4, cells := 0, slots := 0, locals := 93 } s m args below meth c G (va_A (wCD G a0 v0.1 v0.2.1 v0.2.2.1 v0.2.2.2.1 v0.2.2.2.2.1 v0.2.2.2.2.2.1 v0.2.2.2.2.2.2) s.heap.size) 15 0 0 (MQ below (EQ G (wCD G a0 v0.1 v0.2.1 v0.2.2.1 v0.2.2.2.1 v0.2.2.2.2.1 v0.2.2.2.2.2.1 v0.2.2.2.2.2.2) s.heap.size (PB (fun _ : Unit => wCD G a0 v0.1 v0.2.1 v0.2.2.1 v0.2.2.2.1 v0.2.2.2.2.1 v0.2.2.2.2.2.1 v0.2.2.2.2.2.2) (fun r _ => Q r))) args s 0 0 (va_A (wCD G a0 v0.1 v0.2.1 v0.2.2.1 v0.2.2.2.1 v0.2.2.2.2.1 v0.2.2.2.2.2.1 v0.2.2.2.2.2.2) s.heap.size)) (wCD G a0 v0.1 v0.2.1 v0.2.2.1 v0.2.2.2.1 v0.2.2.2.2.1 v0.2.2.2.2.2.1 v0.2.2.2.2.2.2) 58 [(0, .ref a0.1), (1, .int x1), (2, .int y0), (3, .int y1), (4, .int y2), (5, .int y3), (6, .int y4), (7, .int y5), (8, .int y6), (9, .int y7), (10, .int y8)] []), wp_L_areDoors_B141 v0 x1 x3 x4 x5 x6 x7 x8 x10 x11 x12 x13 x14 t0 t1 Q K58 → V p l e { frames := 4, cells := 0, slots := 0, locals := 93 } s m args below meth c G (va_A (wCD G a0 v0.1 v0.2.1 v0.2.2.1 v0.2.2.2.1 v0.2.2.2.2.1 v0.2.2.2.2.2.1 v0.2.2.2.2.2.2) s.heap.size) 15 0 0 (MQ below (EQ G (wCD G a0 v0.1 v0.2.1 v0.2.2.1 v0.2.2.2.1 v0.2.2.2.2.1 v0.2.2.2.2.2.1 v0.2.2.2.2.2.2) s.heap.size (PB (fun _ : Unit => wCD G a0 v0.1 v0.2.1 v0.2.2.1 v0.2.2.2.1 v0.2.2.2.2.1 v0.2.2.2.2.2.1 v0.2.2.2.2.2.2) (fun r _ => Q r))) args s 0 0 (va_A (wCD G a0 v0.1 v0.2.1 v0.2.2.1 v0.2.2.2.1 v0.2.2.2.2.1 v0.2.2.2.2.2.1 v0.2.2.2.2.2.2) s.heap.size)) (wCD G a0 v0.1 v0.2.1 v0.2.2.1 v0.2.2.2.1 v0.2.2.2.2.1 v0.2.2.2.2.2.1 v0.2.2.2.2.2.2) 141 [(0, .ref a0.1), (1, .int x1), (3, .int x3), (4, .int x4), (5, .int x5), (6, .int x6), (7, .int x7), (8, .int x8), (10, .int x10), (11, .int x11), (12, .int x12), (13, .int x13), (14, .int x14)] [.int t1, .int t0] := by
    intro x1 x3 x4 x5 x6 x7 x8 x10 x11 x12 x13 x14 t0 t1 K58 hK58 hw
    refine v_iadd (pc2 := 142) S dL_areDoors_141 rfl ?_
    refine v_nm (fun z57 ez57 => ?_)
    have hw := hw z57 ez57
    refine v_istore_n (lv2 := [(0, .ref a0.1), (1, .int x1), (2, .int z57), (3, .int x3), (4, .int x4), (5, .int x5), (6, .int x6), (7, .int x7), (8, .int x8), (10, .int x10), (11, .int x11), (12, .int x12), (13, .int x13), (14, .int x14)]) (pc2 := 143) S dL_areDoors_142 rfl (by decide) [1, 2, 0, 3, 4, 5, 6, 7, 8, 9, 10, 11, 12, 13] rfl rfl ?_
    refine v_iload_n (pc2 := 144) S 3 dL_areDoors_143 rfl rfl rfl ?_
    refine v_iload (pc2 := 146) S 10 dL_areDoors_144 rfl rfl ?_
    refine v_if_eq (pc2 := 149) (tgt := 153) S dL_areDoors_146 (by decide) rfl (fun c58 => ?_) (fun c58 => ?_)
    · have hw := hw.1 c58
      refine v_iload (pc2 := 155) S 13 dL_areDoors_153 rfl rfl ?_
      refine v_lv [(0, .ref a0.1), (1, .int x1), (2, .int z57), (4, .int x4), (5, .int x5), (6, .int x6), (7, .int x7), (8, .int x8), (10, .int x10), (11, .int x11), (12, .int x12), (13, .int x13)] [0, 1, 2, 4, 5, 6, 7, 8, 9, 10, 11, 12] rfl ?_
      exact B155 x1 z57 x4 x5 x6 x7 x8 x10 x11 x12 x13 x3 x14 K58 hK58 hw
    · have hw := hw.2 c58
      refine v_iconst (v := 0) (pc2 := 150) S dL_areDoors_149 (by decide) rfl ?_
      refine v_goto (tgt := 155) S dL_areDoors_150 (by decide) ?_
      refine v_lv [(0, .ref a0.1), (1, .int x1), (2, .int z57), (4, .int x4), (5, .int x5), (6, .int x6), (7, .int x7), (8, .int x8), (10, .int x10), (11, .int x11), (12, .int x12), (13, .int x13)] [0, 1, 2, 4, 5, 6, 7, 8, 9, 10, 11, 12] rfl ?_
      exact B155 x1 z57 x4 x5 x6 x7 x8 x10 x11 x12 x13 x3 (0 : Int32) K58 hK58 hw
  have B126 : ∀ (x1 : Int32) (x2 : Int32) (x3 : Int32) (x4 : Int32) (x5 : Int32) (x6 : Int32) (x7 : Int32) (x8 : Int32) (x10 : Int32) (x11 : Int32) (x12 : Int32) (x13 : Int32) (t0 : Int32) (t1 : Int32) (K58 : Int32 → Int32 → Int32 → Int32 → Int32 → Int32 → Int32 → Int32 → Int32 → Prop) (hK58 : ∀ (y0 : Int32) (y1 : Int32) (y2 : Int32) (y3 : Int32) (y4 : Int32) (y5 : Int32) (y6 : Int32) (y7 : Int32) (y8 : Int32), K58 y0 y1 y2 y3 y4 y5 y6 y7 y8 → V p l e { frames := 4, cells := 0, slots := 0, locals := 93 } s m args below meth c G (va_A (wCD G a0 v0.1 v0.2.1 v0.2.2.1 v0.2.2.2.1 v0.2.2.2.2.1 v0.2.2.2.2.2.1 v0.2.2.2.2.2.2) s.heap.size) 15 0 0 (MQ below (EQ G (wCD G a0 v0.1 v0.2.1 v0.2.2.1 v0.2.2.2.1 v0.2.2.2.2.1 v0.2.2.2.2.2.1 v0.2.2.2.2.2.2) s.heap.size (PB (fun _ : Unit => wCD G a0 v0.1 v0.2.1 v0.2.2.1 v0.2.2.2.1 v0.2.2.2.2.1 v0.2.2.2.2.2.1 v0.2.2.2.2.2.2) (fun r _ => Q r))) args s 0 0 (va_A (wCD G a0 v0.1 v0.2.1 v0.2.2.1 v0.2.2.2.1 v0.2.2.2.2.1 v0.2.2.2.2.2.1 v0.2.2.2.2.2.2) s.heap.size)) (wCD G a0 v0.1 v0.2.1 v0.2.2.1 v0.2.2.2.1 v0.2.2.2.2.1 v0.2.2.2.2.2.1 v0.2.2.2.2.2.2) 58 [(0, .ref a0.1), (1, .int x1), (2, .int y0), (3, .int y1), (4, .int y2), (5, .int y3), (6, .int y4), (7, .int y5), (8, .int y6), (9, .int y7), (10, .int y8)] []), wp_L_areDoors_B126 v0 x1 x2 x3 x4 x5 x6 x7 x8 x10 x11 x12 x13 t0 t1 Q K58 → V p l e { frames := 4, cells := 0, slots := 0, locals := 93 } s m args below meth c G (va_A (wCD G a0 v0.1 v0.2.1 v0.2.2.1 v0.2.2.2.1 v0.2.2.2.2.1 v0.2.2.2.2.2.1 v0.2.2.2.2.2.2) s.heap.size) 15 0 0 (MQ below (EQ G (wCD G a0 v0.1 v0.2.1 v0.2.2.1 v0.2.2.2.1 v0.2.2.2.2.1 v0.2.2.2.2.2.1 v0.2.2.2.2.2.2) s.heap.size (PB (fun _ : Unit => wCD G a0 v0.1 v0.2.1 v0.2.2.1 v0.2.2.2.1 v0.2.2.2.2.1 v0.2.2.2.2.2.1 v0.2.2.2.2.2.2) (fun r _ => Q r))) args s 0 0 (va_A (wCD G a0 v0.1 v0.2.1 v0.2.2.1 v0.2.2.2.1 v0.2.2.2.2.1 v0.2.2.2.2.2.1 v0.2.2.2.2.2.2) s.heap.size)) (wCD G a0 v0.1 v0.2.1 v0.2.2.1 v0.2.2.2.1 v0.2.2.2.2.1 v0.2.2.2.2.2.1 v0.2.2.2.2.2.2) 126 [(0, .ref a0.1), (1, .int x1), (2, .int x2), (3, .int x3), (4, .int x4), (5, .int x5), (6, .int x6), (7, .int x7), (8, .int x8), (10, .int x10), (11, .int x11), (12, .int x12), (13, .int x13)] [.int t1, .int t0] := by
    intro x1 x2 x3 x4 x5 x6 x7 x8 x10 x11 x12 x13 t0 t1 K58 hK58 hw
    refine v_iadd (pc2 := 127) S dL_areDoors_126 rfl ?_
    refine v_nm (fun z55 ez55 => ?_)
    have hw := hw z55 ez55
    refine v_istore (lv2 := [(0, .ref a0.1), (1, .int x1), (2, .int x2), (3, .int x3), (4, .int x4), (5, .int x5), (6, .int x6), (7, .int x7), (8, .int x8), (10, .int x10), (11, .int x11), (12, .int x12), (13, .int x13), (14, .int z55)]) (pc2 := 129) S dL_areDoors_127 (by decide) [1, 2, 3, 4, 5, 6, 7, 8, 9, 10, 11, 12, 13, 0] rfl rfl ?_
    refine v_iload_n (pc2 := 130) S 2 dL_areDoors_129 rfl rfl rfl ?_
    refine v_iload (pc2 := 132) S 10 dL_areDoors_130 rfl rfl ?_
    refine v_if_eq (pc2 := 135) (tgt := 140) S dL_areDoors_132 (by decide) rfl (fun c56 => ?_) (fun c56 => ?_)
    · have hw := hw.1 c56
      refine v_iconst (v := 0) (pc2 := 141) S dL_areDoors_140 (by decide) rfl ?_
      refine v_lv [(0, .ref a0.1), (1, .int x1), (3, .int x3), (4, .int x4), (5, .int x5), (6, .int x6), (7, .int x7), (8, .int x8), (10, .int x10), (11, .int x11), (12, .int x12), (13, .int x13), (14, .int z55)] [0, 1, 3, 4, 5, 6, 7, 8, 9, 10, 11, 12, 13] rfl ?_
      exact B141 x1 x3 x4 x5 x6 x7 x8 x10 x11 x12 x13 z55 x2 (0 : Int32) K58 hK58 hw
    · have hw := hw.2 c56
      refine v_iload (pc2 := 137) S 13 dL_areDoors_135 rfl rfl ?_
      refine v_goto (tgt := 141) S dL_areDoors_137 (by decide) ?_
      refine v_lv [(0, .ref a0.1), (1, .int x1), (3, .int x3), (4, .int x4), (5, .int x5), (6, .int x6), (7, .int x7), (8, .int x8), (10, .int x10), (11, .int x11), (12, .int x12), (13, .int x13), (14, .int z55)] [0, 1, 3, 4, 5, 6, 7, 8, 9, 10, 11, 12, 13] rfl ?_
      exact B141 x1 x3 x4 x5 x6 x7 x8 x10 x11 x12 x13 z55 x2 z55 K58 hK58 hw
  have B116 : ∀ (x1 : Int32) (x2 : Int32) (x3 : Int32) (x4 : Int32) (x5 : Int32) (x6 : Int32) (x7 : Int32) (x8 : Int32) (x10 : Int32) (x11 : Int32) (x12 : Int32) (x13 : Int32) (t0 : Int32) (K58 : Int32 → Int32 → Int32 → Int32 → Int32 → Int32 → Int32 → Int32 → Int32 → Prop) (hK58 : ∀ (y0 : Int32) (y1 : Int32) (y2 : Int32) (y3 : Int32) (y4 : Int32) (y5 : Int32) (y6 : Int32) (y7 : Int32) (y8 : Int32), K58 y0 y1 y2 y3 y4 y5 y6 y7 y8 → V p l e { frames := 4, cells := 0, slots := 0, locals := 93 } s m args below meth c G (va_A (wCD G a0 v0.1 v0.2.1 v0.2.2.1 v0.2.2.2.1 v0.2.2.2.2.1 v0.2.2.2.2.2.1 v0.2.2.2.2.2.2) s.heap.size) 15 0 0 (MQ below (EQ G (wCD G a0 v0.1 v0.2.1 v0.2.2.1 v0.2.2.2.1 v0.2.2.2.2.1 v0.2.2.2.2.2.1 v0.2.2.2.2.2.2) s.heap.size (PB (fun _ : Unit => wCD G a0 v0.1 v0.2.1 v0.2.2.1 v0.2.2.2.1 v0.2.2.2.2.1 v0.2.2.2.2.2.1 v0.2.2.2.2.2.2) (fun r _ => Q r))) args s 0 0 (va_A (wCD G a0 v0.1 v0.2.1 v0.2.2.1 v0.2.2.2.1 v0.2.2.2.2.1 v0.2.2.2.2.2.1 v0.2.2.2.2.2.2) s.heap.size)) (wCD G a0 v0.1 v0.2.1 v0.2.2.1 v0.2.2.2.1 v0.2.2.2.2.1 v0.2.2.2.2.2.1 v0.2.2.2.2.2.2) 58 [(0, .ref a0.1), (1, .int x1), (2, .int y0), (3, .int y1), (4, .int y2), (5, .int y3), (6, .int y4), (7, .int y5), (8, .int y6), (9, .int y7), (10, .int y8)] []), wp_L_areDoors_B116 v0 x1 x2 x3 x4 x5 x6 x7 x8 x10 x11 x12 x13 t0 Q K58 → V p l e { frames := 4, cells := 0, slots := 0, locals := 93 } s m args below meth c G (va_A (wCD G a0 v0.1 v0.2.1 v0.2.2.1 v0.2.2.2.1 v0.2.2.2.2.1 v0.2.2.2.2.2.1 v0.2.2.2.2.2.2) s.heap.size) 15 0 0 (MQ below (EQ G (wCD G a0 v0.1 v0.2.1 v0.2.2.1 v0.2.2.2.1 v0.2.2.2.2.1 v0.2.2.2.2.2.1 v0.2.2.2.2.2.2) s.heap.size (PB (fun _ : Unit => wCD G a0 v0.1 v0.2.1 v0.2.2.1 v0.2.2.2.1 v0.2.2.2.2.1 v0.2.2.2.2.2.1 v0.2.2.2.2.2.2) (fun r _ => Q r))) args s 0 0 (va_A (wCD G a0 v0.1 v0.2.1 v0.2.2.1 v0.2.2.2.1 v0.2.2.2.2.1 v0.2.2.2.2.2.1 v0.2.2.2.2.2.2) s.heap.size)) (wCD G a0 v0.1 v0.2.1 v0.2.2.1 v0.2.2.2.1 v0.2.2.2.2.1 v0.2.2.2.2.2.1 v0.2.2.2.2.2.2) 116 [(0, .ref a0.1), (1, .int x1), (2, .int x2), (3, .int x3), (4, .int x4), (5, .int x5), (6, .int x6), (7, .int x7), (8, .int x8), (10, .int x10), (11, .int x11), (12, .int x12), (13, .int x13)] [.int t0] := by
    intro x1 x2 x3 x4 x5 x6 x7 x8 x10 x11 x12 x13 t0 K58 hK58 hw
    refine v_iload (pc2 := 118) S 12 dL_areDoors_116 rfl rfl ?_
    refine v_if_lt (pc2 := 121) (tgt := 125) S dL_areDoors_118 (by decide) rfl (fun c54 => ?_) (fun c54 => ?_)
    · have hw := hw.1 c54
      refine v_iconst (v := 0) (pc2 := 126) S dL_areDoors_125 (by decide) rfl ?_
      exact B126 x1 x2 x3 x4 x5 x6 x7 x8 x10 x11 x12 x13 t0 (0 : Int32) K58 hK58 hw
    · have hw := hw.2 c54
      refine v_iconst (v := 1) (pc2 := 122) S dL_areDoors_121 (by decide) rfl ?_
      refine v_goto (tgt := 126) S dL_areDoors_122 (by decide) ?_
      exact B126 x1 x2 x3 x4 x5 x6 x7 x8 x10 x11 x12 x13 t0 (1 : Int32) K58 hK58 hw
  have B86 : ∀ (x1 : Int32) (x2 : Int32) (x3 : Int32) (x4 : Int32) (x5 : Int32) (x6 : Int32) (x7 : Int32) (x8 : Int32) (x10 : Int32) (t0 : Int32) (K58 : Int32 → Int32 → Int32 → Int32 → Int32 → Int32 → Int32 → Int32 → Int32 → Prop) (hK58 : ∀ (y0 : Int32) (y1 : Int32) (y2 : Int32) (y3 : Int32) (y4 : Int32) (y5 : Int32) (y6 : Int32) (y7 : Int32) (y8 : Int32), K58 y0 y1 y2 y3 y4 y5 y6 y7 y8 → V p l e { frames := 4, cells := 0, slots := 0, locals := 93 } s m args below meth c G (va_A (wCD G a0 v0.1 v0.2.1 v0.2.2.1 v0.2.2.2.1 v0.2.2.2.2.1 v0.2.2.2.2.2.1 v0.2.2.2.2.2.2) s.heap.size) 15 0 0 (MQ below (EQ G (wCD G a0 v0.1 v0.2.1 v0.2.2.1 v0.2.2.2.1 v0.2.2.2.2.1 v0.2.2.2.2.2.1 v0.2.2.2.2.2.2) s.heap.size (PB (fun _ : Unit => wCD G a0 v0.1 v0.2.1 v0.2.2.1 v0.2.2.2.1 v0.2.2.2.2.1 v0.2.2.2.2.2.1 v0.2.2.2.2.2.2) (fun r _ => Q r))) args s 0 0 (va_A (wCD G a0 v0.1 v0.2.1 v0.2.2.1 v0.2.2.2.1 v0.2.2.2.2.1 v0.2.2.2.2.2.1 v0.2.2.2.2.2.2) s.heap.size)) (wCD G a0 v0.1 v0.2.1 v0.2.2.1 v0.2.2.2.1 v0.2.2.2.2.1 v0.2.2.2.2.2.1 v0.2.2.2.2.2.2) 58 [(0, .ref a0.1), (1, .int x1), (2, .int y0), (3, .int y1), (4, .int y2), (5, .int y3), (6, .int y4), (7, .int y5), (8, .int y6), (9, .int y7), (10, .int y8)] []), wp_L_areDoors_B86 v0 x1 x2 x3 x4 x5 x6 x7 x8 x10 t0 Q K58 → V p l e { frames := 4, cells := 0, slots := 0, locals := 93 } s m args below meth c G (va_A (wCD G a0 v0.1 v0.2.1 v0.2.2.1 v0.2.2.2.1 v0.2.2.2.2.1 v0.2.2.2.2.2.1 v0.2.2.2.2.2.2) s.heap.size) 15 0 0 (MQ below (EQ G (wCD G a0 v0.1 v0.2.1 v0.2.2.1 v0.2.2.2.1 v0.2.2.2.2.1 v0.2.2.2.2.2.1 v0.2.2.2.2.2.2) s.heap.size (PB (fun _ : Unit => wCD G a0 v0.1 v0.2.1 v0.2.2.1 v0.2.2.2.1 v0.2.2.2.2.1 v0.2.2.2.2.2.1 v0.2.2.2.2.2.2) (fun r _ => Q r))) args s 0 0 (va_A (wCD G a0 v0.1 v0.2.1 v0.2.2.1 v0.2.2.2.1 v0.2.2.2.2.1 v0.2.2.2.2.2.1 v0.2.2.2.2.2.2) s.heap.size)) (wCD G a0 v0.1 v0.2.1 v0.2.2.1 v0.2.2.2.1 v0.2.2.2.2.1 v0.2.2.2.2.2.1 v0.2.2.2.2.2.2) 86 [(0, .ref a0.1), (1, .int x1), (2, .int x2), (3, .int x3), (4, .int x4), (5, .int x5), (6, .int x6), (7, .int x7), (8, .int x8), (10, .int x10)] [.int t0] := by
    intro x1 x2 x3 x4 x5 x6 x7 x8 x10 t0 K58 hK58 hw
    refine v_istore (lv2 := [(0, .ref a0.1), (1, .int x1), (2, .int x2), (3, .int x3), (4, .int x4), (5, .int x5), (6, .int x6), (7, .int x7), (8, .int x8), (10, .int x10), (11, .int t0)]) (pc2 := 88) S dL_areDoors_86 (by decide) [1, 2, 3, 4, 5, 6, 7, 8, 9, 10, 0] rfl rfl ?_
    refine v_aload_n (pc2 := 89) S 0 dL_areDoors_88 rfl rfl rfl ?_
    refine v_iload (pc2 := 91) S 9 dL_areDoors_89 rfl rfl ?_
    refine v_iconst (v := 3) (pc2 := 92) S dL_areDoors_91 (by decide) rfl ?_
    refine v_callV (pc2 := 95) (As := [.int x10, .int (3 : Int32)]) (rest := []) S (c_X8_door l G a0 v0 x10 (3 : Int32) _ hw) mf_X8_door u_484 u_485 u_486 0 8 rfl rfl rfl rfl ⟨rfl, rfl⟩ ⟨Nat.le_of_ble_eq_true rfl, Nat.le_of_ble_eq_true rfl⟩ ⟨Nat.le_of_ble_eq_true rfl, Nat.le_of_ble_eq_true rfl⟩ (Nat.le_of_ble_eq_true rfl) dL_areDoors_92 (frW _) rfl (pi (fun r49 u50 hw => ?_))
    refine v_to (wCD G a0 v0.1 v0.2.1 v0.2.2.1 v0.2.2.2.1 v0.2.2.2.2.1 v0.2.2.2.2.2.1 v0.2.2.2.2.2.2) 95 [(0, .ref a0.1), (1, .int x1), (2, .int x2), (3, .int x3), (4, .int x4), (5, .int x5), (6, .int x6), (7, .int x7), (8, .int x8), (10, .int x10), (11, .int t0)] _ [.int r49] rfl rfl rfl rfl ?_
    refine v_istore (lv2 := [(0, .ref a0.1), (1, .int x1), (2, .int x2), (3, .int x3), (4, .int x4), (5, .int x5), (6, .int x6), (7, .int x7), (8, .int x8), (10, .int x10), (11, .int t0), (12, .int r49)]) (pc2 := 97) S dL_areDoors_95 (by decide) [1, 2, 3, 4, 5, 6, 7, 8, 9, 10, 11, 0] rfl rfl ?_
    refine v_aload_n (pc2 := 98) S 0 dL_areDoors_97 rfl rfl rfl ?_
    refine v_iload (pc2 := 100) S 9 dL_areDoors_98 rfl rfl ?_
    refine v_iconst (v := 4) (pc2 := 101) S dL_areDoors_100 (by decide) rfl ?_
    refine v_callV (pc2 := 104) (As := [.int x10, .int (4 : Int32)]) (rest := []) S (c_X8_door l G a0 v0 x10 (4 : Int32) _ hw) mf_X8_door u_484 u_485 u_486 0 8 rfl rfl rfl rfl ⟨rfl, rfl⟩ ⟨Nat.le_of_ble_eq_true rfl, Nat.le_of_ble_eq_true rfl⟩ ⟨Nat.le_of_ble_eq_true rfl, Nat.le_of_ble_eq_true rfl⟩ (Nat.le_of_ble_eq_true rfl) dL_areDoors_101 (frW _) rfl (pi (fun r51 u52 hw => ?_))
    refine v_to (wCD G a0 v0.1 v0.2.1 v0.2.2.1 v0.2.2.2.1 v0.2.2.2.2.1 v0.2.2.2.2.2.1 v0.2.2.2.2.2.2) 104 [(0, .ref a0.1), (1, .int x1), (2, .int x2), (3, .int x3), (4, .int x4), (5, .int x5), (6, .int x6), (7, .int x7), (8, .int x8), (10, .int x10), (11, .int t0), (12, .int r49)] _ [.int r51] rfl rfl rfl rfl ?_
    refine v_istore (lv2 := [(0, .ref a0.1), (1, .int x1), (2, .int x2), (3, .int x3), (4, .int x4), (5, .int x5), (6, .int x6), (7, .int x7), (8, .int x8), (10, .int x10), (11, .int t0), (12, .int r49), (13, .int r51)]) (pc2 := 106) S dL_areDoors_104 (by decide) [1, 2, 3, 4, 5, 6, 7, 8, 9, 10, 11, 12, 0] rfl rfl ?_
    refine v_iload (pc2 := 108) S 11 dL_areDoors_106 rfl rfl ?_
    refine v_if_lt (pc2 := 111) (tgt := 115) S dL_areDoors_108 (by decide) rfl (fun c53 => ?_) (fun c53 => ?_)
    · have hw := hw.1 c53
      refine v_iconst (v := 0) (pc2 := 116) S dL_areDoors_115 (by decide) rfl ?_
      exact B116 x1 x2 x3 x4 x5 x6 x7 x8 x10 t0 r49 r51 (0 : Int32) K58 hK58 hw
    · have hw := hw.2 c53
      refine v_iconst (v := 1) (pc2 := 112) S dL_areDoors_111 (by decide) rfl ?_
      refine v_goto (tgt := 116) S dL_areDoors_112 (by decide) ?_
      exact B116 x1 x2 x3 x4 x5 x6 x7 x8 x10 t0 r49 r51 (1 : Int32) K58 hK58 hw
  have L58 : ∀ (x1 : Int32) (kk : Nat) (x2 : Int32) (x3 : Int32) (x4 : Int32) (x5 : Int32) (x6 : Int32) (x7 : Int32) (x8 : Int32) (x9 : Int32) (x10 : Int32), wp_L_areDoors_L58 v0 x1 Q kk x2 x3 x4 x5 x6 x7 x8 x9 x10 → V p l e { frames := 4, cells := 0, slots := 0, locals := 93 } s m args below meth c G (va_A (wCD G a0 v0.1 v0.2.1 v0.2.2.1 v0.2.2.2.1 v0.2.2.2.2.1 v0.2.2.2.2.2.1 v0.2.2.2.2.2.2) s.heap.size) 15 0 0 (MQ below (EQ G (wCD G a0 v0.1 v0.2.1 v0.2.2.1 v0.2.2.2.1 v0.2.2.2.2.1 v0.2.2.2.2.2.1 v0.2.2.2.2.2.2) s.heap.size (PB (fun _ : Unit => wCD G a0 v0.1 v0.2.1 v0.2.2.1 v0.2.2.2.1 v0.2.2.2.2.1 v0.2.2.2.2.2.1 v0.2.2.2.2.2.2) (fun r _ => Q r))) args s 0 0 (va_A (wCD G a0 v0.1 v0.2.1 v0.2.2.1 v0.2.2.2.1 v0.2.2.2.2.1 v0.2.2.2.2.2.1 v0.2.2.2.2.2.2) s.heap.size)) (wCD G a0 v0.1 v0.2.1 v0.2.2.1 v0.2.2.2.1 v0.2.2.2.2.1 v0.2.2.2.2.2.1 v0.2.2.2.2.2.2) 58 [(0, .ref a0.1), (1, .int x1), (2, .int x2), (3, .int x3), (4, .int x4), (5, .int x5), (6, .int x6), (7, .int x7), (8, .int x8), (9, .int x9), (10, .int x10)] [] := by
    intro x1 kk
    induction kk with
    | zero => intro x2 x3 x4 x5 x6 x7 x8 x9 x10 hw; exact hw.elim
    | succ n ih =>
      intro x2 x3 x4 x5 x6 x7 x8 x9 x10 hw
      refine v_iload (pc2 := 60) S 10 dL_areDoors_58 rfl rfl ?_
      refine v_bipush (v := 10) (pc2 := 62) S dL_areDoors_60 (by decide) rfl ?_
      refine v_icmp_ge (pc2 := 65) (tgt := 517) S dL_areDoors_62 (by decide) rfl (fun c4 => ?_) (fun c4 => ?_)
      · have hw := hw.1 c4
        refine v_lv [(0, .ref a0.1), (2, .int x2), (3, .int x3), (4, .int x4), (5, .int x5), (6, .int x6), (7, .int x7), (8, .int x8), (9, .int x9)] [0, 2, 3, 4, 5, 6, 7, 8, 9] rfl ?_
        exact B517 x2 x3 x4 x5 x6 x7 x8 x9 hw
      · have hw := hw.2 c4
        refine v_iload (pc2 := 67) S 9 dL_areDoors_65 rfl rfl ?_
        refine v_if_eq (pc2 := 70) (tgt := 517) S dL_areDoors_67 (by decide) rfl (fun c45 => ?_) (fun c45 => ?_)
        · have hw := hw.1 c45
          refine v_lv [(0, .ref a0.1), (2, .int x2), (3, .int x3), (4, .int x4), (5, .int x5), (6, .int x6), (7, .int x7), (8, .int x8), (9, .int x9)] [0, 2, 3, 4, 5, 6, 7, 8, 9] rfl ?_
          exact B517 x2 x3 x4 x5 x6 x7 x8 x9 hw
        · have hw := hw.2 c45
          refine v_aload_n (pc2 := 71) S 0 dL_areDoors_70 rfl rfl rfl ?_
          refine v_iload (pc2 := 73) S 10 dL_areDoors_71 rfl rfl ?_
          refine v_iconst (v := 0) (pc2 := 74) S dL_areDoors_73 (by decide) rfl ?_
          refine v_callV (pc2 := 77) (As := [.int x10, .int (0 : Int32)]) (rest := []) S (c_X8_door l G a0 v0 x10 (0 : Int32) _ hw) mf_X8_door u_484 u_485 u_486 0 8 rfl rfl rfl rfl ⟨rfl, rfl⟩ ⟨Nat.le_of_ble_eq_true rfl, Nat.le_of_ble_eq_true rfl⟩ ⟨Nat.le_of_ble_eq_true rfl, Nat.le_of_ble_eq_true rfl⟩ (Nat.le_of_ble_eq_true rfl) dL_areDoors_74 (frW _) rfl (pi (fun r46 u47 hw => ?_))
          refine v_to (wCD G a0 v0.1 v0.2.1 v0.2.2.1 v0.2.2.2.1 v0.2.2.2.2.1 v0.2.2.2.2.2.1 v0.2.2.2.2.2.2) 77 [(0, .ref a0.1), (1, .int x1), (2, .int x2), (3, .int x3), (4, .int x4), (5, .int x5), (6, .int x6), (7, .int x7), (8, .int x8), (9, .int x9), (10, .int x10)] _ [.int r46] rfl rfl rfl rfl ?_
          refine v_iconst (v := 1) (pc2 := 78) S dL_areDoors_77 (by decide) rfl ?_
          refine v_icmp_ne (pc2 := 81) (tgt := 85) S dL_areDoors_78 (by decide) rfl (fun c48 => ?_) (fun c48 => ?_)
          · have hw := hw.1 c48
            refine v_iconst (v := 0) (pc2 := 86) S dL_areDoors_85 (by decide) rfl ?_
            refine v_lv [(0, .ref a0.1), (1, .int x1), (2, .int x2), (3, .int x3), (4, .int x4), (5, .int x5), (6, .int x6), (7, .int x7), (8, .int x8), (10, .int x10)] [0, 1, 2, 3, 4, 5, 6, 7, 8, 10] rfl ?_
            exact B86 x1 x2 x3 x4 x5 x6 x7 x8 x10 (0 : Int32) (wp_L_areDoors_L58 v0 x1 Q n) ih hw
          · have hw := hw.2 c48
            refine v_iconst (v := 1) (pc2 := 82) S dL_areDoors_81 (by decide) rfl ?_
            refine v_goto (tgt := 86) S dL_areDoors_82 (by decide) ?_
            refine v_lv [(0, .ref a0.1), (1, .int x1), (2, .int x2), (3, .int x3), (4, .int x4), (5, .int x5), (6, .int x6), (7, .int x7), (8, .int x8), (10, .int x10)] [0, 1, 2, 3, 4, 5, 6, 7, 8, 10] rfl ?_
            exact B86 x1 x2 x3 x4 x5 x6 x7 x8 x10 (1 : Int32) (wp_L_areDoors_L58 v0 x1 Q n) ih hw
  refine v_aload_n (pc2 := 1) S 0 dL_areDoors_0 rfl rfl rfl ?_
  refine v_iconst (v := 0) (pc2 := 2) S dL_areDoors_1 (by decide) rfl ?_
  refine v_callV (pc2 := 5) (As := [.int (0 : Int32)]) (rest := []) S (c_X8_count l G a0 v0 (0 : Int32) _ hw) mf_X8_count u_398 u_399 u_400 0 8 rfl rfl rfl rfl ⟨rfl, rfl⟩ ⟨Nat.le_of_ble_eq_true rfl, Nat.le_of_ble_eq_true rfl⟩ ⟨Nat.le_of_ble_eq_true rfl, Nat.le_of_ble_eq_true rfl⟩ (Nat.le_of_ble_eq_true rfl) dL_areDoors_2 (frW _) rfl (pi (fun r1 u2 hw => ?_))
  refine v_to (wCD G a0 v0.1 v0.2.1 v0.2.2.1 v0.2.2.2.1 v0.2.2.2.2.1 v0.2.2.2.2.2.1 v0.2.2.2.2.2.2) 5 [(0, .ref a0.1)] _ [.int r1] rfl rfl rfl rfl ?_
  refine v_istore_n (lv2 := [(0, .ref a0.1), (1, .int r1)]) (pc2 := 6) S dL_areDoors_5 rfl (by decide) [1, 0] rfl rfl ?_
  refine v_iconst (v := 0) (pc2 := 7) S dL_areDoors_6 (by decide) rfl ?_
  refine v_istore_n (lv2 := [(0, .ref a0.1), (1, .int r1), (2, .int (0 : Int32))]) (pc2 := 8) S dL_areDoors_7 rfl (by decide) [1, 2, 0] rfl rfl ?_
  refine v_iconst (v := 0) (pc2 := 9) S dL_areDoors_8 (by decide) rfl ?_
  refine v_istore_n (lv2 := [(0, .ref a0.1), (1, .int r1), (2, .int (0 : Int32)), (3, .int (0 : Int32))]) (pc2 := 10) S dL_areDoors_9 rfl (by decide) [1, 2, 3, 0] rfl rfl ?_
  refine v_iconst (v := 0) (pc2 := 11) S dL_areDoors_10 (by decide) rfl ?_
  refine v_istore (lv2 := [(0, .ref a0.1), (1, .int r1), (2, .int (0 : Int32)), (3, .int (0 : Int32)), (4, .int (0 : Int32))]) (pc2 := 13) S dL_areDoors_11 (by decide) [1, 2, 3, 4, 0] rfl rfl ?_
  refine v_iconst (v := 0) (pc2 := 14) S dL_areDoors_13 (by decide) rfl ?_
  refine v_istore (lv2 := [(0, .ref a0.1), (1, .int r1), (2, .int (0 : Int32)), (3, .int (0 : Int32)), (4, .int (0 : Int32)), (5, .int (0 : Int32))]) (pc2 := 16) S dL_areDoors_14 (by decide) [1, 2, 3, 4, 5, 0] rfl rfl ?_
  refine v_iconst (v := 0) (pc2 := 17) S dL_areDoors_16 (by decide) rfl ?_
  refine v_istore (lv2 := [(0, .ref a0.1), (1, .int r1), (2, .int (0 : Int32)), (3, .int (0 : Int32)), (4, .int (0 : Int32)), (5, .int (0 : Int32)), (6, .int (0 : Int32))]) (pc2 := 19) S dL_areDoors_17 (by decide) [1, 2, 3, 4, 5, 6, 0] rfl rfl ?_
  refine v_iconst (v := 0) (pc2 := 20) S dL_areDoors_19 (by decide) rfl ?_
  refine v_istore (lv2 := [(0, .ref a0.1), (1, .int r1), (2, .int (0 : Int32)), (3, .int (0 : Int32)), (4, .int (0 : Int32)), (5, .int (0 : Int32)), (6, .int (0 : Int32)), (7, .int (0 : Int32))]) (pc2 := 22) S dL_areDoors_20 (by decide) [1, 2, 3, 4, 5, 6, 7, 0] rfl rfl ?_
  refine v_iconst (v := 0) (pc2 := 23) S dL_areDoors_22 (by decide) rfl ?_
  refine v_istore (lv2 := [(0, .ref a0.1), (1, .int r1), (2, .int (0 : Int32)), (3, .int (0 : Int32)), (4, .int (0 : Int32)), (5, .int (0 : Int32)), (6, .int (0 : Int32)), (7, .int (0 : Int32)), (8, .int (0 : Int32))]) (pc2 := 25) S dL_areDoors_23 (by decide) [1, 2, 3, 4, 5, 6, 7, 8, 0] rfl rfl ?_
  refine v_iload_n (pc2 := 26) S 1 dL_areDoors_25 rfl rfl rfl ?_
  refine v_if_lt (pc2 := 29) (tgt := 52) S dL_areDoors_26 (by decide) rfl (fun c3 => ?_) (fun c3 => ?_)
  · have hw := hw.1 c3
    refine v_iconst (v := 0) (pc2 := 53) S dL_areDoors_52 (by decide) rfl ?_
    refine v_istore (lv2 := [(0, .ref a0.1), (1, .int r1), (2, .int (0 : Int32)), (3, .int (0 : Int32)), (4, .int (0 : Int32)), (5, .int (0 : Int32)), (6, .int (0 : Int32)), (7, .int (0 : Int32)), (8, .int (0 : Int32)), (9, .int (0 : Int32))]) (pc2 := 55) S dL_areDoors_53 (by decide) [1, 2, 3, 4, 5, 6, 7, 8, 9, 0] rfl rfl ?_
    refine v_iconst (v := 0) (pc2 := 56) S dL_areDoors_55 (by decide) rfl ?_
    refine v_istore (lv2 := [(0, .ref a0.1), (1, .int r1), (2, .int (0 : Int32)), (3, .int (0 : Int32)), (4, .int (0 : Int32)), (5, .int (0 : Int32)), (6, .int (0 : Int32)), (7, .int (0 : Int32)), (8, .int (0 : Int32)), (9, .int (0 : Int32)), (10, .int (0 : Int32))]) (pc2 := 58) S dL_areDoors_56 (by decide) [1, 2, 3, 4, 5, 6, 7, 8, 9, 10, 0] rfl rfl ?_
    obtain ⟨kk, hw⟩ := hw
    exact L58 r1 kk (0 : Int32) (0 : Int32) (0 : Int32) (0 : Int32) (0 : Int32) (0 : Int32) (0 : Int32) (0 : Int32) (0 : Int32) hw
  · have hw := hw.2 c3
    refine v_iload_n (pc2 := 30) S 1 dL_areDoors_29 rfl rfl rfl ?_
    refine v_sipush (v := 1024) (pc2 := 33) S dL_areDoors_30 (by decide) rfl ?_
    refine v_icmp_ge (pc2 := 36) (tgt := 52) S dL_areDoors_33 (by decide) rfl (fun c156 => ?_) (fun c156 => ?_)
    · have hw := hw.1 c156
      refine v_iconst (v := 0) (pc2 := 53) S dL_areDoors_52 (by decide) rfl ?_
      refine v_istore (lv2 := [(0, .ref a0.1), (1, .int r1), (2, .int (0 : Int32)), (3, .int (0 : Int32)), (4, .int (0 : Int32)), (5, .int (0 : Int32)), (6, .int (0 : Int32)), (7, .int (0 : Int32)), (8, .int (0 : Int32)), (9, .int (0 : Int32))]) (pc2 := 55) S dL_areDoors_53 (by decide) [1, 2, 3, 4, 5, 6, 7, 8, 9, 0] rfl rfl ?_
      refine v_iconst (v := 0) (pc2 := 56) S dL_areDoors_55 (by decide) rfl ?_
      refine v_istore (lv2 := [(0, .ref a0.1), (1, .int r1), (2, .int (0 : Int32)), (3, .int (0 : Int32)), (4, .int (0 : Int32)), (5, .int (0 : Int32)), (6, .int (0 : Int32)), (7, .int (0 : Int32)), (8, .int (0 : Int32)), (9, .int (0 : Int32)), (10, .int (0 : Int32))]) (pc2 := 58) S dL_areDoors_56 (by decide) [1, 2, 3, 4, 5, 6, 7, 8, 9, 10, 0] rfl rfl ?_
      obtain ⟨kk, hw⟩ := hw
      exact L58 r1 kk (0 : Int32) (0 : Int32) (0 : Int32) (0 : Int32) (0 : Int32) (0 : Int32) (0 : Int32) (0 : Int32) (0 : Int32) hw
    · have hw := hw.2 c156
      refine v_iload_n (pc2 := 37) S 1 dL_areDoors_36 rfl rfl rfl ?_
      refine v_callS (pc2 := 40) (As := [.int r1]) (rest := []) S (c_L_size l G r1 _ hw) mf_L_size u_509 u_510 rfl rfl ⟨rfl, rfl⟩ ⟨Nat.le_of_ble_eq_true rfl, Nat.le_of_ble_eq_true rfl⟩ ⟨Nat.le_of_ble_eq_true rfl, Nat.le_of_ble_eq_true rfl⟩ (Nat.le_of_ble_eq_true rfl) dL_areDoors_37 (frM [] [] _) rfl (pi (fun r157 u158 hw => ?_))
      refine v_to (wCD G a0 v0.1 v0.2.1 v0.2.2.1 v0.2.2.2.1 v0.2.2.2.2.1 v0.2.2.2.2.2.1 v0.2.2.2.2.2.2) 40 [(0, .ref a0.1), (1, .int r1), (2, .int (0 : Int32)), (3, .int (0 : Int32)), (4, .int (0 : Int32)), (5, .int (0 : Int32)), (6, .int (0 : Int32)), (7, .int (0 : Int32)), (8, .int (0 : Int32))] _ [.int r157] rfl rfl rfl rfl ?_
      refine v_aload_n (pc2 := 41) S 0 dL_areDoors_40 rfl rfl rfl ?_
      refine v_iconst (v := 1) (pc2 := 42) S dL_areDoors_41 (by decide) rfl ?_
      refine v_callV (pc2 := 45) (As := [.int (1 : Int32)]) (rest := [.int r157]) S (c_X8_count l G a0 v0 (1 : Int32) _ hw) mf_X8_count u_398 u_399 u_400 0 8 rfl rfl rfl rfl ⟨rfl, rfl⟩ ⟨Nat.le_of_ble_eq_true rfl, Nat.le_of_ble_eq_true rfl⟩ ⟨Nat.le_of_ble_eq_true rfl, Nat.le_of_ble_eq_true rfl⟩ (Nat.le_of_ble_eq_true rfl) dL_areDoors_42 (frW _) rfl (pi (fun r159 u160 hw => ?_))
      refine v_to (wCD G a0 v0.1 v0.2.1 v0.2.2.1 v0.2.2.2.1 v0.2.2.2.2.1 v0.2.2.2.2.2.1 v0.2.2.2.2.2.2) 45 [(0, .ref a0.1), (1, .int r1), (2, .int (0 : Int32)), (3, .int (0 : Int32)), (4, .int (0 : Int32)), (5, .int (0 : Int32)), (6, .int (0 : Int32)), (7, .int (0 : Int32)), (8, .int (0 : Int32))] _ [.int r159, .int r157] rfl rfl rfl rfl ?_
      refine v_icmp_ne (pc2 := 48) (tgt := 52) S dL_areDoors_45 (by decide) rfl (fun c161 => ?_) (fun c161 => ?_)
      · have hw := hw.1 c161
        refine v_iconst (v := 0) (pc2 := 53) S dL_areDoors_52 (by decide) rfl ?_
        refine v_istore (lv2 := [(0, .ref a0.1), (1, .int r1), (2, .int (0 : Int32)), (3, .int (0 : Int32)), (4, .int (0 : Int32)), (5, .int (0 : Int32)), (6, .int (0 : Int32)), (7, .int (0 : Int32)), (8, .int (0 : Int32)), (9, .int (0 : Int32))]) (pc2 := 55) S dL_areDoors_53 (by decide) [1, 2, 3, 4, 5, 6, 7, 8, 9, 0] rfl rfl ?_
        refine v_iconst (v := 0) (pc2 := 56) S dL_areDoors_55 (by decide) rfl ?_
        refine v_istore (lv2 := [(0, .ref a0.1), (1, .int r1), (2, .int (0 : Int32)), (3, .int (0 : Int32)), (4, .int (0 : Int32)), (5, .int (0 : Int32)), (6, .int (0 : Int32)), (7, .int (0 : Int32)), (8, .int (0 : Int32)), (9, .int (0 : Int32)), (10, .int (0 : Int32))]) (pc2 := 58) S dL_areDoors_56 (by decide) [1, 2, 3, 4, 5, 6, 7, 8, 9, 10, 0] rfl rfl ?_
        obtain ⟨kk, hw⟩ := hw
        exact L58 r1 kk (0 : Int32) (0 : Int32) (0 : Int32) (0 : Int32) (0 : Int32) (0 : Int32) (0 : Int32) (0 : Int32) (0 : Int32) hw
      · have hw := hw.2 c161
        refine v_iconst (v := 1) (pc2 := 49) S dL_areDoors_48 (by decide) rfl ?_
        refine v_goto (tgt := 53) S dL_areDoors_49 (by decide) ?_
        refine v_istore (lv2 := [(0, .ref a0.1), (1, .int r1), (2, .int (0 : Int32)), (3, .int (0 : Int32)), (4, .int (0 : Int32)), (5, .int (0 : Int32)), (6, .int (0 : Int32)), (7, .int (0 : Int32)), (8, .int (0 : Int32)), (9, .int (1 : Int32))]) (pc2 := 55) S dL_areDoors_53 (by decide) [1, 2, 3, 4, 5, 6, 7, 8, 9, 0] rfl rfl ?_
        refine v_iconst (v := 0) (pc2 := 56) S dL_areDoors_55 (by decide) rfl ?_
        refine v_istore (lv2 := [(0, .ref a0.1), (1, .int r1), (2, .int (0 : Int32)), (3, .int (0 : Int32)), (4, .int (0 : Int32)), (5, .int (0 : Int32)), (6, .int (0 : Int32)), (7, .int (0 : Int32)), (8, .int (0 : Int32)), (9, .int (1 : Int32)), (10, .int (0 : Int32))]) (pc2 := 58) S dL_areDoors_56 (by decide) [1, 2, 3, 4, 5, 6, 7, 8, 9, 10, 0] rfl rfl ?_
        obtain ⟨kk, hw⟩ := hw
        exact L58 r1 kk (0 : Int32) (0 : Int32) (0 : Int32) (0 : Int32) (0 : Int32) (0 : Int32) (0 : Int32) (1 : Int32) (0 : Int32) hw
set_option maxHeartbeats 4000000 in
set_option maxRecDepth 100000 in
theorem c_L_areHalls (l : Launch) (G : GG) (a0 : CDA) (v0 : CDV) (Q : Int32 → Prop) (hw : wp_L_areHalls v0 Q) : Con l G yL_areHalls cL_areHalls 10 (some .boolean) { frames := 6, cells := 0, slots := 0, locals := 132 } [.ref a0.1] (wCD G a0 v0.1 v0.2.1 v0.2.2.1 v0.2.2.2.1 v0.2.2.2.2.1 v0.2.2.2.2.2.1 v0.2.2.2.2.2.2) (PB (fun _ : Unit => wCD G a0 v0.1 v0.2.1 v0.2.2.1 v0.2.2.2.1 v0.2.2.2.2.1 v0.2.2.2.2.2.1 v0.2.2.2.2.2.2) (fun r _ => Q r)) 0 0 := by
  refine con_of RL rfl (by decide) [(0, .ref a0.1)] rfl (Nat.le_of_ble_eq_true rfl) ?_
  intro p e s m args below meth c S hname
  have B274 : ∀ (x1 : Int32) (x2 : Int32) (x3 : Int32) (x4 : Int32) (x5 : Int32) (x6 : Int32), wp_L_areHalls_B274 v0 x1 x2 x3 x4 x5 x6 Q → V p l e { frames := 6, cells := 0, slots := 0, locals := 132 } s m args below meth c G (va_A (wCD G a0 v0.1 v0.2.1 v0.2.2.1 v0.2.2.2.1 v0.2.2.2.2.1 v0.2.2.2.2.2.1 v0.2.2.2.2.2.2) s.heap.size) 10 0 0 (MQ below (EQ G (wCD G a0 v0.1 v0.2.1 v0.2.2.1 v0.2.2.2.1 v0.2.2.2.2.1 v0.2.2.2.2.2.1 v0.2.2.2.2.2.2) s.heap.size (PB (fun _ : Unit => wCD G a0 v0.1 v0.2.1 v0.2.2.1 v0.2.2.2.1 v0.2.2.2.2.1 v0.2.2.2.2.2.1 v0.2.2.2.2.2.2) (fun r _ => Q r))) args s 0 0 (va_A (wCD G a0 v0.1 v0.2.1 v0.2.2.1 v0.2.2.2.1 v0.2.2.2.2.1 v0.2.2.2.2.2.1 v0.2.2.2.2.2.2) s.heap.size)) (wCD G a0 v0.1 v0.2.1 v0.2.2.1 v0.2.2.2.1 v0.2.2.2.2.1 v0.2.2.2.2.2.1 v0.2.2.2.2.2.2) 274 [(0, .ref a0.1), (1, .int x1), (2, .int x2), (3, .int x3), (4, .int x4), (5, .int x5), (6, .int x6)] [] := by
    intro x1 x2 x3 x4 x5 x6 hw
    refine v_iload (pc2 := 276) S 5 dL_areHalls_274 rfl rfl ?_
    refine v_if_eq (pc2 := 279) (tgt := 322) S dL_areHalls_276 (by decide) rfl (fun c3 => ?_) (fun c3 => ?_)
    · have hw := hw.1 c3
      refine v_iconst (v := 0) (pc2 := 323) S dL_areHalls_322 (by decide) rfl ?_
      exact v_zret S (by decide) ⟨(0 : Int32), (), rfl, (by decide), rfl, hw⟩ dL_areHalls_323
    · have hw := hw.2 c3
      refine v_iload_n (pc2 := 280) S 1 dL_areHalls_279 rfl rfl rfl ?_
      refine v_bipush (v := 20) (pc2 := 282) S dL_areHalls_280 (by decide) rfl ?_
      refine v_icmp_ne (pc2 := 285) (tgt := 322) S dL_areHalls_282 (by decide) rfl (fun c4 => ?_) (fun c4 => ?_)
      · have hw := hw.1 c4
        refine v_iconst (v := 0) (pc2 := 323) S dL_areHalls_322 (by decide) rfl ?_
        exact v_zret S (by decide) ⟨(0 : Int32), (), rfl, (by decide), rfl, hw⟩ dL_areHalls_323
      · have hw := hw.2 c4
        refine v_iload_n (pc2 := 286) S 2 dL_areHalls_285 rfl rfl rfl ?_
        refine v_iconst (v := 2) (pc2 := 287) S dL_areHalls_286 (by decide) rfl ?_
        refine v_aload_n (pc2 := 288) S 0 dL_areHalls_287 rfl rfl rfl ?_
        refine v_iconst (v := 1) (pc2 := 289) S dL_areHalls_288 (by decide) rfl ?_
        refine v_callV (pc2 := 292) (As := [.int (1 : Int32)]) (rest := [.int (2 : Int32), .int x2]) S (c_X8_count l G a0 v0 (1 : Int32) _ hw) mf_X8_count u_398 u_399 u_400 0 8 rfl rfl rfl rfl ⟨rfl, rfl⟩ ⟨Nat.le_of_ble_eq_true rfl, Nat.le_of_ble_eq_true rfl⟩ ⟨Nat.le_of_ble_eq_true rfl, Nat.le_of_ble_eq_true rfl⟩ (Nat.le_of_ble_eq_true rfl) dL_areHalls_289 (frW _) rfl (pi (fun r5 u6 hw => ?_))
        refine v_to (wCD G a0 v0.1 v0.2.1 v0.2.2.1 v0.2.2.2.1 v0.2.2.2.2.1 v0.2.2.2.2.2.1 v0.2.2.2.2.2.2) 292 [(0, .ref a0.1), (1, .int x1), (2, .int x2), (3, .int x3), (4, .int x4), (5, .int x5), (6, .int x6)] _ [.int r5, .int (2 : Int32), .int x2] rfl rfl rfl rfl ?_
        refine v_imul (pc2 := 293) S dL_areHalls_292 rfl ?_
        refine v_icmp_ne (pc2 := 296) (tgt := 322) S dL_areHalls_293 (by decide) rfl (fun c7 => ?_) (fun c7 => ?_)
        · have hw := hw.1 c7
          refine v_iconst (v := 0) (pc2 := 323) S dL_areHalls_322 (by decide) rfl ?_
          exact v_zret S (by decide) ⟨(0 : Int32), (), rfl, (by decide), rfl, hw⟩ dL_areHalls_323
        · have hw := hw.2 c7
          refine v_iload_n (pc2 := 297) S 3 dL_areHalls_296 rfl rfl rfl ?_
          refine v_iconst (v := 3) (pc2 := 298) S dL_areHalls_297 (by decide) rfl ?_
          refine v_icmp_ne (pc2 := 301) (tgt := 322) S dL_areHalls_298 (by decide) rfl (fun c8 => ?_) (fun c8 => ?_)
          · have hw := hw.1 c8
            refine v_iconst (v := 0) (pc2 := 323) S dL_areHalls_322 (by decide) rfl ?_
            exact v_zret S (by decide) ⟨(0 : Int32), (), rfl, (by decide), rfl, hw⟩ dL_areHalls_323
          · have hw := hw.2 c8
            refine v_iload (pc2 := 303) S 4 dL_areHalls_301 rfl rfl ?_
            refine v_iconst (v := 2) (pc2 := 304) S dL_areHalls_303 (by decide) rfl ?_
            refine v_aload_n (pc2 := 305) S 0 dL_areHalls_304 rfl rfl rfl ?_
            refine v_iconst (v := 5) (pc2 := 306) S dL_areHalls_305 (by decide) rfl ?_
            refine v_callV (pc2 := 309) (As := [.int (5 : Int32)]) (rest := [.int (2 : Int32), .int x4]) S (c_X8_count l G a0 v0 (5 : Int32) _ hw) mf_X8_count u_398 u_399 u_400 0 8 rfl rfl rfl rfl ⟨rfl, rfl⟩ ⟨Nat.le_of_ble_eq_true rfl, Nat.le_of_ble_eq_true rfl⟩ ⟨Nat.le_of_ble_eq_true rfl, Nat.le_of_ble_eq_true rfl⟩ (Nat.le_of_ble_eq_true rfl) dL_areHalls_306 (frW _) rfl (pi (fun r9 u10 hw => ?_))
            refine v_to (wCD G a0 v0.1 v0.2.1 v0.2.2.1 v0.2.2.2.1 v0.2.2.2.2.1 v0.2.2.2.2.2.1 v0.2.2.2.2.2.2) 309 [(0, .ref a0.1), (1, .int x1), (2, .int x2), (3, .int x3), (4, .int x4), (5, .int x5), (6, .int x6)] _ [.int r9, .int (2 : Int32), .int x4] rfl rfl rfl rfl ?_
            refine v_imul (pc2 := 310) S dL_areHalls_309 rfl ?_
            refine v_icmp_ne (pc2 := 313) (tgt := 322) S dL_areHalls_310 (by decide) rfl (fun c11 => ?_) (fun c11 => ?_)
            · have hw := hw.1 c11
              refine v_iconst (v := 0) (pc2 := 323) S dL_areHalls_322 (by decide) rfl ?_
              exact v_zret S (by decide) ⟨(0 : Int32), (), rfl, (by decide), rfl, hw⟩ dL_areHalls_323
            · have hw := hw.2 c11
              refine v_iload (pc2 := 315) S 6 dL_areHalls_313 rfl rfl ?_
              refine v_if_lt (pc2 := 318) (tgt := 322) S dL_areHalls_315 (by decide) rfl (fun c12 => ?_) (fun c12 => ?_)
              · have hw := hw.1 c12
                refine v_iconst (v := 0) (pc2 := 323) S dL_areHalls_322 (by decide) rfl ?_
                exact v_zret S (by decide) ⟨(0 : Int32), (), rfl, (by decide), rfl, hw⟩ dL_areHalls_323
              · have hw := hw.2 c12
                refine v_iconst (v := 1) (pc2 := 319) S dL_areHalls_318 (by decide) rfl ?_
                refine v_goto (tgt := 323) S dL_areHalls_319 (by decide) ?_
                exact v_zret S (by decide) ⟨(1 : Int32), (), rfl, (by decide), rfl, hw⟩ dL_areHalls_323
  have L163 : ∀ (x1 : Int32) (x2 : Int32) (x3 : Int32) (x4 : Int32) (kk : Nat) (x5 : Int32) (x6 : Int32) (x7 : Int32), wp_L_areHalls_L163 v0 x1 x2 x3 x4 Q kk x5 x6 x7 → V p l e { frames := 6, cells := 0, slots := 0, locals := 132 } s m args below meth c G (va_A (wCD G a0 v0.1 v0.2.1 v0.2.2.1 v0.2.2.2.1 v0.2.2.2.2.1 v0.2.2.2.2.2.1 v0.2.2.2.2.2.2) s.heap.size) 10 0 0 (MQ below (EQ G (wCD G a0 v0.1 v0.2.1 v0.2.2.1 v0.2.2.2.1 v0.2.2.2.2.1 v0.2.2.2.2.2.1 v0.2.2.2.2.2.2) s.heap.size (PB (fun _ : Unit => wCD G a0 v0.1 v0.2.1 v0.2.2.1 v0.2.2.2.1 v0.2.2.2.2.1 v0.2.2.2.2.2.1 v0.2.2.2.2.2.2) (fun r _ => Q r))) args s 0 0 (va_A (wCD G a0 v0.1 v0.2.1 v0.2.2.1 v0.2.2.2.1 v0.2.2.2.2.1 v0.2.2.2.2.2.1 v0.2.2.2.2.2.2) s.heap.size)) (wCD G a0 v0.1 v0.2.1 v0.2.2.1 v0.2.2.2.1 v0.2.2.2.2.1 v0.2.2.2.2.2.1 v0.2.2.2.2.2.2) 163 [(0, .ref a0.1), (1, .int x1), (2, .int x2), (3, .int x3), (4, .int x4), (5, .int x5), (6, .int x6), (7, .int x7)] [] := by
    intro x1 x2 x3 x4 kk
    induction kk with
    | zero => intro x5 x6 x7 hw; exact hw.elim
    | succ n ih =>
      intro x5 x6 x7 hw
      refine v_iload (pc2 := 165) S 7 dL_areHalls_163 rfl rfl ?_
      refine v_iconst (v := 3) (pc2 := 166) S dL_areHalls_165 (by decide) rfl ?_
      refine v_icmp_ge (pc2 := 169) (tgt := 274) S dL_areHalls_166 (by decide) rfl (fun c2 => ?_) (fun c2 => ?_)
      · have hw := hw.1 c2
        refine v_lv [(0, .ref a0.1), (1, .int x1), (2, .int x2), (3, .int x3), (4, .int x4), (5, .int x5), (6, .int x6)] [0, 1, 2, 3, 4, 5, 6] rfl ?_
        exact B274 x1 x2 x3 x4 x5 x6 hw
      · have hw := hw.2 c2
        refine v_iload (pc2 := 171) S 5 dL_areHalls_169 rfl rfl ?_
        refine v_if_eq (pc2 := 174) (tgt := 274) S dL_areHalls_171 (by decide) rfl (fun c13 => ?_) (fun c13 => ?_)
        · have hw := hw.1 c13
          refine v_lv [(0, .ref a0.1), (1, .int x1), (2, .int x2), (3, .int x3), (4, .int x4), (5, .int x5), (6, .int x6)] [0, 1, 2, 3, 4, 5, 6] rfl ?_
          exact B274 x1 x2 x3 x4 x5 x6 hw
        · have hw := hw.2 c13
          refine v_aload_n (pc2 := 175) S 0 dL_areHalls_174 rfl rfl rfl ?_
          refine v_iload (pc2 := 177) S 7 dL_areHalls_175 rfl rfl ?_
          refine v_iconst (v := 0) (pc2 := 178) S dL_areHalls_177 (by decide) rfl ?_
          refine v_callV (pc2 := 181) (As := [.int x7, .int (0 : Int32)]) (rest := []) S (c_X8_guest l G a0 v0 x7 (0 : Int32) _ hw) mf_X8_guest u_252 u_253 u_254 0 8 rfl rfl rfl rfl ⟨rfl, rfl⟩ ⟨Nat.le_of_ble_eq_true rfl, Nat.le_of_ble_eq_true rfl⟩ ⟨Nat.le_of_ble_eq_true rfl, Nat.le_of_ble_eq_true rfl⟩ (Nat.le_of_ble_eq_true rfl) dL_areHalls_178 (frW _) rfl (pi (fun r14 u15 hw => ?_))
          refine v_to (wCD G a0 v0.1 v0.2.1 v0.2.2.1 v0.2.2.2.1 v0.2.2.2.2.1 v0.2.2.2.2.2.1 v0.2.2.2.2.2.2) 181 [(0, .ref a0.1), (1, .int x1), (2, .int x2), (3, .int x3), (4, .int x4), (5, .int x5), (6, .int x6), (7, .int x7)] _ [.int r14] rfl rfl rfl rfl ?_
          refine v_istore (lv2 := [(0, .ref a0.1), (1, .int x1), (2, .int x2), (3, .int x3), (4, .int x4), (5, .int x5), (6, .int x6), (7, .int x7), (8, .int r14)]) (pc2 := 183) S dL_areHalls_181 (by decide) [1, 2, 3, 4, 5, 6, 7, 8, 0] rfl rfl ?_
          refine v_aload_n (pc2 := 184) S 0 dL_areHalls_183 rfl rfl rfl ?_
          refine v_iload (pc2 := 186) S 7 dL_areHalls_184 rfl rfl ?_
          refine v_iconst (v := 1) (pc2 := 187) S dL_areHalls_186 (by decide) rfl ?_
          refine v_callV (pc2 := 190) (As := [.int x7, .int (1 : Int32)]) (rest := []) S (c_X8_guest l G a0 v0 x7 (1 : Int32) _ hw) mf_X8_guest u_252 u_253 u_254 0 8 rfl rfl rfl rfl ⟨rfl, rfl⟩ ⟨Nat.le_of_ble_eq_true rfl, Nat.le_of_ble_eq_true rfl⟩ ⟨Nat.le_of_ble_eq_true rfl, Nat.le_of_ble_eq_true rfl⟩ (Nat.le_of_ble_eq_true rfl) dL_areHalls_187 (frW _) rfl (pi (fun r16 u17 hw => ?_))
          refine v_to (wCD G a0 v0.1 v0.2.1 v0.2.2.1 v0.2.2.2.1 v0.2.2.2.2.1 v0.2.2.2.2.2.1 v0.2.2.2.2.2.2) 190 [(0, .ref a0.1), (1, .int x1), (2, .int x2), (3, .int x3), (4, .int x4), (5, .int x5), (6, .int x6), (7, .int x7), (8, .int r14)] _ [.int r16] rfl rfl rfl rfl ?_
          refine v_istore (lv2 := [(0, .ref a0.1), (1, .int x1), (2, .int x2), (3, .int x3), (4, .int x4), (5, .int x5), (6, .int x6), (7, .int x7), (8, .int r14), (9, .int r16)]) (pc2 := 192) S dL_areHalls_190 (by decide) [1, 2, 3, 4, 5, 6, 7, 8, 9, 0] rfl rfl ?_
          refine v_iload (pc2 := 194) S 6 dL_areHalls_192 rfl rfl ?_
          refine v_aload_n (pc2 := 195) S 0 dL_areHalls_194 rfl rfl rfl ?_
          refine v_iload (pc2 := 197) S 7 dL_areHalls_195 rfl rfl ?_
          refine v_iconst (v := 3) (pc2 := 198) S dL_areHalls_197 (by decide) rfl ?_
          refine v_callV (pc2 := 201) (As := [.int x7, .int (3 : Int32)]) (rest := [.int x6]) S (c_X8_guest l G a0 v0 x7 (3 : Int32) _ hw) mf_X8_guest u_252 u_253 u_254 0 8 rfl rfl rfl rfl ⟨rfl, rfl⟩ ⟨Nat.le_of_ble_eq_true rfl, Nat.le_of_ble_eq_true rfl⟩ ⟨Nat.le_of_ble_eq_true rfl, Nat.le_of_ble_eq_true rfl⟩ (Nat.le_of_ble_eq_true rfl) dL_areHalls_198 (frW _) rfl (pi (fun r18 u19 hw => ?_))
          refine v_to (wCD G a0 v0.1 v0.2.1 v0.2.2.1 v0.2.2.2.1 v0.2.2.2.2.1 v0.2.2.2.2.2.1 v0.2.2.2.2.2.2) 201 [(0, .ref a0.1), (1, .int x1), (2, .int x2), (3, .int x3), (4, .int x4), (5, .int x5), (6, .int x6), (7, .int x7), (8, .int r14), (9, .int r16)] _ [.int r18, .int x6] rfl rfl rfl rfl ?_
          refine v_iadd (pc2 := 202) S dL_areHalls_201 rfl ?_
          refine v_nm (fun z20 ez20 => ?_)
          have hw := hw z20 ez20
          refine v_istore (lv2 := [(0, .ref a0.1), (1, .int x1), (2, .int x2), (3, .int x3), (4, .int x4), (5, .int x5), (6, .int z20), (7, .int x7), (8, .int r14), (9, .int r16)]) (pc2 := 204) S dL_areHalls_202 (by decide) [1, 2, 3, 4, 5, 6, 0, 7, 8, 9] rfl rfl ?_
          refine v_iload (pc2 := 206) S 8 dL_areHalls_204 rfl rfl ?_
          refine v_if_lt (pc2 := 209) (tgt := 265) S dL_areHalls_206 (by decide) rfl (fun c21 => ?_) (fun c21 => ?_)
          · have hw := hw.1 c21
            refine v_iconst (v := 0) (pc2 := 266) S dL_areHalls_265 (by decide) rfl ?_
            refine v_istore (lv2 := [(0, .ref a0.1), (1, .int x1), (2, .int x2), (3, .int x3), (4, .int x4), (5, .int (0 : Int32)), (6, .int z20), (7, .int x7), (8, .int r14), (9, .int r16)]) (pc2 := 268) S dL_areHalls_266 (by decide) [1, 2, 3, 4, 5, 0, 6, 7, 8, 9] rfl rfl ?_
            obtain ⟨z22, ez22⟩ : ∃ y : Int32, y = x7 + (1 : Int32) := ⟨_, rfl⟩
            have hw := hw z22 ez22
            refine v_iinc (v := z22) (lv2 := [(0, .ref a0.1), (1, .int x1), (2, .int x2), (3, .int x3), (4, .int x4), (5, .int (0 : Int32)), (6, .int z20), (7, .int z22), (8, .int r14), (9, .int r16)]) (pc2 := 271) S 7 dL_areHalls_268 rfl (by rw [ez22]; rfl) (by decide) [1, 2, 3, 4, 5, 6, 7, 0, 8, 9] rfl rfl ?_
            refine v_goto (tgt := 163) S dL_areHalls_271 (by decide) ?_
            refine v_lv [(0, .ref a0.1), (1, .int x1), (2, .int x2), (3, .int x3), (4, .int x4), (5, .int (0 : Int32)), (6, .int z20), (7, .int z22)] [0, 1, 2, 3, 4, 5, 6, 7] rfl ?_
            exact ih (0 : Int32) z20 z22 hw
          · have hw := hw.2 c21
            refine v_iload (pc2 := 211) S 8 dL_areHalls_209 rfl rfl ?_
            refine v_bipush (v := 6) (pc2 := 213) S dL_areHalls_211 (by decide) rfl ?_
            refine v_icmp_ge (pc2 := 216) (tgt := 265) S dL_areHalls_213 (by decide) rfl (fun c23 => ?_) (fun c23 => ?_)
            · have hw := hw.1 c23
              refine v_iconst (v := 0) (pc2 := 266) S dL_areHalls_265 (by decide) rfl ?_
              refine v_istore (lv2 := [(0, .ref a0.1), (1, .int x1), (2, .int x2), (3, .int x3), (4, .int x4), (5, .int (0 : Int32)), (6, .int z20), (7, .int x7), (8, .int r14), (9, .int r16)]) (pc2 := 268) S dL_areHalls_266 (by decide) [1, 2, 3, 4, 5, 0, 6, 7, 8, 9] rfl rfl ?_
              obtain ⟨z24, ez24⟩ : ∃ y : Int32, y = x7 + (1 : Int32) := ⟨_, rfl⟩
              have hw := hw z24 ez24
              refine v_iinc (v := z24) (lv2 := [(0, .ref a0.1), (1, .int x1), (2, .int x2), (3, .int x3), (4, .int x4), (5, .int (0 : Int32)), (6, .int z20), (7, .int z24), (8, .int r14), (9, .int r16)]) (pc2 := 271) S 7 dL_areHalls_268 rfl (by rw [ez24]; rfl) (by decide) [1, 2, 3, 4, 5, 6, 7, 0, 8, 9] rfl rfl ?_
              refine v_goto (tgt := 163) S dL_areHalls_271 (by decide) ?_
              refine v_lv [(0, .ref a0.1), (1, .int x1), (2, .int x2), (3, .int x3), (4, .int x4), (5, .int (0 : Int32)), (6, .int z20), (7, .int z24)] [0, 1, 2, 3, 4, 5, 6, 7] rfl ?_
              exact ih (0 : Int32) z20 z24 hw
            · have hw := hw.2 c23
              refine v_iload (pc2 := 218) S 9 dL_areHalls_216 rfl rfl ?_
              refine v_if_lt (pc2 := 221) (tgt := 265) S dL_areHalls_218 (by decide) rfl (fun c25 => ?_) (fun c25 => ?_)
              · have hw := hw.1 c25
                refine v_iconst (v := 0) (pc2 := 266) S dL_areHalls_265 (by decide) rfl ?_
                refine v_istore (lv2 := [(0, .ref a0.1), (1, .int x1), (2, .int x2), (3, .int x3), (4, .int x4), (5, .int (0 : Int32)), (6, .int z20), (7, .int x7), (8, .int r14), (9, .int r16)]) (pc2 := 268) S dL_areHalls_266 (by decide) [1, 2, 3, 4, 5, 0, 6, 7, 8, 9] rfl rfl ?_
                obtain ⟨z26, ez26⟩ : ∃ y : Int32, y = x7 + (1 : Int32) := ⟨_, rfl⟩
                have hw := hw z26 ez26
                refine v_iinc (v := z26) (lv2 := [(0, .ref a0.1), (1, .int x1), (2, .int x2), (3, .int x3), (4, .int x4), (5, .int (0 : Int32)), (6, .int z20), (7, .int z26), (8, .int r14), (9, .int r16)]) (pc2 := 271) S 7 dL_areHalls_268 rfl (by rw [ez26]; rfl) (by decide) [1, 2, 3, 4, 5, 6, 7, 0, 8, 9] rfl rfl ?_
                refine v_goto (tgt := 163) S dL_areHalls_271 (by decide) ?_
                refine v_lv [(0, .ref a0.1), (1, .int x1), (2, .int x2), (3, .int x3), (4, .int x4), (5, .int (0 : Int32)), (6, .int z20), (7, .int z26)] [0, 1, 2, 3, 4, 5, 6, 7] rfl ?_
                exact ih (0 : Int32) z20 z26 hw
              · have hw := hw.2 c25
                refine v_iload (pc2 := 223) S 9 dL_areHalls_221 rfl rfl ?_
                refine v_sipush (v := 1024) (pc2 := 226) S dL_areHalls_223 (by decide) rfl ?_
                refine v_icmp_ge (pc2 := 229) (tgt := 265) S dL_areHalls_226 (by decide) rfl (fun c27 => ?_) (fun c27 => ?_)
                · have hw := hw.1 c27
                  refine v_iconst (v := 0) (pc2 := 266) S dL_areHalls_265 (by decide) rfl ?_
                  refine v_istore (lv2 := [(0, .ref a0.1), (1, .int x1), (2, .int x2), (3, .int x3), (4, .int x4), (5, .int (0 : Int32)), (6, .int z20), (7, .int x7), (8, .int r14), (9, .int r16)]) (pc2 := 268) S dL_areHalls_266 (by decide) [1, 2, 3, 4, 5, 0, 6, 7, 8, 9] rfl rfl ?_
                  obtain ⟨z28, ez28⟩ : ∃ y : Int32, y = x7 + (1 : Int32) := ⟨_, rfl⟩
                  have hw := hw z28 ez28
                  refine v_iinc (v := z28) (lv2 := [(0, .ref a0.1), (1, .int x1), (2, .int x2), (3, .int x3), (4, .int x4), (5, .int (0 : Int32)), (6, .int z20), (7, .int z28), (8, .int r14), (9, .int r16)]) (pc2 := 271) S 7 dL_areHalls_268 rfl (by rw [ez28]; rfl) (by decide) [1, 2, 3, 4, 5, 6, 7, 0, 8, 9] rfl rfl ?_
                  refine v_goto (tgt := 163) S dL_areHalls_271 (by decide) ?_
                  refine v_lv [(0, .ref a0.1), (1, .int x1), (2, .int x2), (3, .int x3), (4, .int x4), (5, .int (0 : Int32)), (6, .int z20), (7, .int z28)] [0, 1, 2, 3, 4, 5, 6, 7] rfl ?_
                  exact ih (0 : Int32) z20 z28 hw
                · have hw := hw.2 c27
                  refine v_aload_n (pc2 := 230) S 0 dL_areHalls_229 rfl rfl rfl ?_
                  refine v_iload (pc2 := 232) S 7 dL_areHalls_230 rfl rfl ?_
                  refine v_iconst (v := 2) (pc2 := 233) S dL_areHalls_232 (by decide) rfl ?_
                  refine v_callV (pc2 := 236) (As := [.int x7, .int (2 : Int32)]) (rest := []) S (c_X8_guest l G a0 v0 x7 (2 : Int32) _ hw) mf_X8_guest u_252 u_253 u_254 0 8 rfl rfl rfl rfl ⟨rfl, rfl⟩ ⟨Nat.le_of_ble_eq_true rfl, Nat.le_of_ble_eq_true rfl⟩ ⟨Nat.le_of_ble_eq_true rfl, Nat.le_of_ble_eq_true rfl⟩ (Nat.le_of_ble_eq_true rfl) dL_areHalls_233 (frW _) rfl (pi (fun r29 u30 hw => ?_))
                  refine v_to (wCD G a0 v0.1 v0.2.1 v0.2.2.1 v0.2.2.2.1 v0.2.2.2.2.1 v0.2.2.2.2.2.1 v0.2.2.2.2.2.2) 236 [(0, .ref a0.1), (1, .int x1), (2, .int x2), (3, .int x3), (4, .int x4), (5, .int x5), (6, .int z20), (7, .int x7), (8, .int r14), (9, .int r16)] _ [.int r29] rfl rfl rfl rfl ?_
                  refine v_iload (pc2 := 238) S 9 dL_areHalls_236 rfl rfl ?_
                  refine v_callS (pc2 := 241) (As := [.int r16]) (rest := [.int r29]) S (c_L_size l G r16 _ hw) mf_L_size u_509 u_510 rfl rfl ⟨rfl, rfl⟩ ⟨Nat.le_of_ble_eq_true rfl, Nat.le_of_ble_eq_true rfl⟩ ⟨Nat.le_of_ble_eq_true rfl, Nat.le_of_ble_eq_true rfl⟩ (Nat.le_of_ble_eq_true rfl) dL_areHalls_238 (frM [] [] _) rfl (pi (fun r31 u32 hw => ?_))
                  refine v_to (wCD G a0 v0.1 v0.2.1 v0.2.2.1 v0.2.2.2.1 v0.2.2.2.2.1 v0.2.2.2.2.2.1 v0.2.2.2.2.2.2) 241 [(0, .ref a0.1), (1, .int x1), (2, .int x2), (3, .int x3), (4, .int x4), (5, .int x5), (6, .int z20), (7, .int x7), (8, .int r14), (9, .int r16)] _ [.int r31, .int r29] rfl rfl rfl rfl ?_
                  refine v_icmp_gt (pc2 := 244) (tgt := 265) S dL_areHalls_241 (by decide) rfl (fun c33 => ?_) (fun c33 => ?_)
                  · have hw := hw.1 c33
                    refine v_iconst (v := 0) (pc2 := 266) S dL_areHalls_265 (by decide) rfl ?_
                    refine v_istore (lv2 := [(0, .ref a0.1), (1, .int x1), (2, .int x2), (3, .int x3), (4, .int x4), (5, .int (0 : Int32)), (6, .int z20), (7, .int x7), (8, .int r14), (9, .int r16)]) (pc2 := 268) S dL_areHalls_266 (by decide) [1, 2, 3, 4, 5, 0, 6, 7, 8, 9] rfl rfl ?_
                    obtain ⟨z34, ez34⟩ : ∃ y : Int32, y = x7 + (1 : Int32) := ⟨_, rfl⟩
                    have hw := hw z34 ez34
                    refine v_iinc (v := z34) (lv2 := [(0, .ref a0.1), (1, .int x1), (2, .int x2), (3, .int x3), (4, .int x4), (5, .int (0 : Int32)), (6, .int z20), (7, .int z34), (8, .int r14), (9, .int r16)]) (pc2 := 271) S 7 dL_areHalls_268 rfl (by rw [ez34]; rfl) (by decide) [1, 2, 3, 4, 5, 6, 7, 0, 8, 9] rfl rfl ?_
                    refine v_goto (tgt := 163) S dL_areHalls_271 (by decide) ?_
                    refine v_lv [(0, .ref a0.1), (1, .int x1), (2, .int x2), (3, .int x3), (4, .int x4), (5, .int (0 : Int32)), (6, .int z20), (7, .int z34)] [0, 1, 2, 3, 4, 5, 6, 7] rfl ?_
                    exact ih (0 : Int32) z20 z34 hw
                  · have hw := hw.2 c33
                    refine v_aload_n (pc2 := 245) S 0 dL_areHalls_244 rfl rfl rfl ?_
                    refine v_iload (pc2 := 247) S 7 dL_areHalls_245 rfl rfl ?_
                    refine v_iconst (v := 2) (pc2 := 248) S dL_areHalls_247 (by decide) rfl ?_
                    refine v_callV (pc2 := 251) (As := [.int x7, .int (2 : Int32)]) (rest := []) S (c_X8_guest l G a0 v0 x7 (2 : Int32) _ hw) mf_X8_guest u_252 u_253 u_254 0 8 rfl rfl rfl rfl ⟨rfl, rfl⟩ ⟨Nat.le_of_ble_eq_true rfl, Nat.le_of_ble_eq_true rfl⟩ ⟨Nat.le_of_ble_eq_true rfl, Nat.le_of_ble_eq_true rfl⟩ (Nat.le_of_ble_eq_true rfl) dL_areHalls_248 (frW _) rfl (pi (fun r35 u36 hw => ?_))
                    refine v_to (wCD G a0 v0.1 v0.2.1 v0.2.2.1 v0.2.2.2.1 v0.2.2.2.2.1 v0.2.2.2.2.2.1 v0.2.2.2.2.2.2) 251 [(0, .ref a0.1), (1, .int x1), (2, .int x2), (3, .int x3), (4, .int x4), (5, .int x5), (6, .int z20), (7, .int x7), (8, .int r14), (9, .int r16)] _ [.int r35] rfl rfl rfl rfl ?_
                    refine v_aload_n (pc2 := 252) S 0 dL_areHalls_251 rfl rfl rfl ?_
                    refine v_iload (pc2 := 254) S 8 dL_areHalls_252 rfl rfl ?_
                    refine v_iconst (v := 0) (pc2 := 255) S dL_areHalls_254 (by decide) rfl ?_
                    refine v_callV (pc2 := 258) (As := [.int r14, .int (0 : Int32)]) (rest := [.int r35]) S (c_X8_hall l G a0 v0 r14 (0 : Int32) _ hw) mf_X8_hall u_524 u_525 u_526 0 8 rfl rfl rfl rfl ⟨rfl, rfl⟩ ⟨Nat.le_of_ble_eq_true rfl, Nat.le_of_ble_eq_true rfl⟩ ⟨Nat.le_of_ble_eq_true rfl, Nat.le_of_ble_eq_true rfl⟩ (Nat.le_of_ble_eq_true rfl) dL_areHalls_255 (frW _) rfl (pi (fun r37 u38 hw => ?_))
                    refine v_to (wCD G a0 v0.1 v0.2.1 v0.2.2.1 v0.2.2.2.1 v0.2.2.2.2.1 v0.2.2.2.2.2.1 v0.2.2.2.2.2.2) 258 [(0, .ref a0.1), (1, .int x1), (2, .int x2), (3, .int x3), (4, .int x4), (5, .int x5), (6, .int z20), (7, .int x7), (8, .int r14), (9, .int r16)] _ [.int r37, .int r35] rfl rfl rfl rfl ?_
                    refine v_icmp_gt (pc2 := 261) (tgt := 265) S dL_areHalls_258 (by decide) rfl (fun c39 => ?_) (fun c39 => ?_)
                    · have hw := hw.1 c39
                      refine v_iconst (v := 0) (pc2 := 266) S dL_areHalls_265 (by decide) rfl ?_
                      refine v_istore (lv2 := [(0, .ref a0.1), (1, .int x1), (2, .int x2), (3, .int x3), (4, .int x4), (5, .int (0 : Int32)), (6, .int z20), (7, .int x7), (8, .int r14), (9, .int r16)]) (pc2 := 268) S dL_areHalls_266 (by decide) [1, 2, 3, 4, 5, 0, 6, 7, 8, 9] rfl rfl ?_
                      obtain ⟨z40, ez40⟩ : ∃ y : Int32, y = x7 + (1 : Int32) := ⟨_, rfl⟩
                      have hw := hw z40 ez40
                      refine v_iinc (v := z40) (lv2 := [(0, .ref a0.1), (1, .int x1), (2, .int x2), (3, .int x3), (4, .int x4), (5, .int (0 : Int32)), (6, .int z20), (7, .int z40), (8, .int r14), (9, .int r16)]) (pc2 := 271) S 7 dL_areHalls_268 rfl (by rw [ez40]; rfl) (by decide) [1, 2, 3, 4, 5, 6, 7, 0, 8, 9] rfl rfl ?_
                      refine v_goto (tgt := 163) S dL_areHalls_271 (by decide) ?_
                      refine v_lv [(0, .ref a0.1), (1, .int x1), (2, .int x2), (3, .int x3), (4, .int x4), (5, .int (0 : Int32)), (6, .int z20), (7, .int z40)] [0, 1, 2, 3, 4, 5, 6, 7] rfl ?_
                      exact ih (0 : Int32) z20 z40 hw
                    · have hw := hw.2 c39
                      refine v_iconst (v := 1) (pc2 := 262) S dL_areHalls_261 (by decide) rfl ?_
                      refine v_goto (tgt := 266) S dL_areHalls_262 (by decide) ?_
                      refine v_istore (lv2 := [(0, .ref a0.1), (1, .int x1), (2, .int x2), (3, .int x3), (4, .int x4), (5, .int (1 : Int32)), (6, .int z20), (7, .int x7), (8, .int r14), (9, .int r16)]) (pc2 := 268) S dL_areHalls_266 (by decide) [1, 2, 3, 4, 5, 0, 6, 7, 8, 9] rfl rfl ?_
                      obtain ⟨z41, ez41⟩ : ∃ y : Int32, y = x7 + (1 : Int32) := ⟨_, rfl⟩
                      have hw := hw z41 ez41
                      refine v_iinc (v := z41) (lv2 := [(0, .ref a0.1), (1, .int x1), (2, .int x2), (3, .int x3), (4, .int x4), (5, .int (1 : Int32)), (6, .int z20), (7, .int z41), (8, .int r14), (9, .int r16)]) (pc2 := 271) S 7 dL_areHalls_268 rfl (by rw [ez41]; rfl) (by decide) [1, 2, 3, 4, 5, 6, 7, 0, 8, 9] rfl rfl ?_
                      refine v_goto (tgt := 163) S dL_areHalls_271 (by decide) ?_
                      refine v_lv [(0, .ref a0.1), (1, .int x1), (2, .int x2), (3, .int x3), (4, .int x4), (5, .int (1 : Int32)), (6, .int z20), (7, .int z41)] [0, 1, 2, 3, 4, 5, 6, 7] rfl ?_
                      exact ih (1 : Int32) z20 z41 hw
  have B125 : ∀ (x1 : Int32) (x2 : Int32) (x3 : Int32) (x4 : Int32) (x6 : Int32) (t0 : Int32) (K15 : Int32 → Int32 → Int32 → Int32 → Int32 → Int32 → Prop) (hK15 : ∀ (y0 : Int32) (y1 : Int32) (y2 : Int32) (y3 : Int32) (y4 : Int32) (y5 : Int32), K15 y0 y1 y2 y3 y4 y5 → V p l e { frames := 6, cells := 0, slots := 0, locals := 132 } s m args below meth c G (va_A (wCD G a0 v0.1 v0.2.1 v0.2.2.1 v0.2.2.2.1 v0.2.2.2.2.1 v0.2.2.2.2.2.1 v0.2.2.2.2.2.2) s.heap.size) 10 0 0 (MQ below (EQ G (wCD G a0 v0.1 v0.2.1 v0.2.2.1 v0.2.2.2.1 v0.2.2.2.2.1 v0.2.2.2.2.2.1 v0.2.2.2.2.2.2) s.heap.size (PB (fun _ : Unit => wCD G a0 v0.1 v0.2.1 v0.2.2.1 v0.2.2.2.1 v0.2.2.2.2.1 v0.2.2.2.2.2.1 v0.2.2.2.2.2.2) (fun r _ => Q r))) args s 0 0 (va_A (wCD G a0 v0.1 v0.2.1 v0.2.2.1 v0.2.2.2.1 v0.2.2.2.2.1 v0.2.2.2.2.2.1 v0.2.2.2.2.2.2) s.heap.size)) (wCD G a0 v0.1 v0.2.1 v0.2.2.1 v0.2.2.2.1 v0.2.2.2.2.1 v0.2.2.2.2.2.1 v0.2.2.2.2.2.2) 15 [(0, .ref a0.1), (1, .int y0), (2, .int y1), (3, .int y2), (4, .int y3), (5, .int y4), (6, .int y5)] []), wp_L_areHalls_B125 v0 x1 x2 x3 x4 x6 t0 Q K15 → V p l e { frames := 6, cells := 0, slots := 0, locals := 132 } s m args below meth c G (va_A (wCD G a0 v0.1 v0.2.1 v0.2.2.1 v0.2.2.2.1 v0.2.2.2.2.1 v0.2.2.2.2.2.1 v0.2.2.2.2.2.2) s.heap.size) 10 0 0 (MQ below (EQ G (wCD G a0 v0.1 v0.2.1 v0.2.2.1 v0.2.2.2.1 v0.2.2.2.2.1 v0.2.2.2.2.2.1 v0.2.2.2.2.2.2) s.heap.size (PB (fun _ : Unit => wCD G a0 v0.1 v0.2.1 v0.2.2.1 v0.2.2.2.1 v0.2.2.2.2.1 v0.2.2.2.2.2.1 v0.2.2.2.2.2.2) (fun r _ => Q r))) args s 0 0 (va_A (wCD G a0 v0.1 v0.2.1 v0.2.2.1 v0.2.2.2.1 v0.2.2.2.2.1 v0.2.2.2.2.2.1 v0.2.2.2.2.2.2) s.heap.size)) (wCD G a0 v0.1 v0.2.1 v0.2.2.1 v0.2.2.2.1 v0.2.2.2.2.1 v0.2.2.2.2.2.1 v0.2.2.2.2.2.2) 125 [(0, .ref a0.1), (1, .int x1), (2, .int x2), (3, .int x3), (4, .int x4), (6, .int x6)] [.int t0] := by
    intro x1 x2 x3 x4 x6 t0 K15 hK15 hw
    refine v_aload_n (pc2 := 126) S 0 dL_areHalls_125 rfl rfl rfl ?_
    refine v_iload (pc2 := 128) S 5 dL_areHalls_126 rfl rfl ?_
    refine v_iconst (v := 3) (pc2 := 129) S dL_areHalls_128 (by decide) rfl ?_
    refine v_callV (pc2 := 132) (As := [.int x6, .int (3 : Int32)]) (rest := [.int t0]) S (c_X8_hall l G a0 v0 x6 (3 : Int32) _ hw) mf_X8_hall u_524 u_525 u_526 0 8 rfl rfl rfl rfl ⟨rfl, rfl⟩ ⟨Nat.le_of_ble_eq_true rfl, Nat.le_of_ble_eq_true rfl⟩ ⟨Nat.le_of_ble_eq_true rfl, Nat.le_of_ble_eq_true rfl⟩ (Nat.le_of_ble_eq_true rfl) dL_areHalls_129 (frW _) rfl (pi (fun r72 u73 hw => ?_))
    refine v_to (wCD G a0 v0.1 v0.2.1 v0.2.2.1 v0.2.2.2.1 v0.2.2.2.2.1 v0.2.2.2.2.2.1 v0.2.2.2.2.2.2) 132 [(0, .ref a0.1), (1, .int x1), (2, .int x2), (3, .int x3), (4, .int x4), (6, .int x6)] _ [.int r72, .int t0] rfl rfl rfl rfl ?_
    refine v_iconst (v := 1) (pc2 := 133) S dL_areHalls_132 (by decide) rfl ?_
    refine v_icmp_le (pc2 := 136) (tgt := 140) S dL_areHalls_133 (by decide) rfl (fun c74 => ?_) (fun c74 => ?_)
    · have hw := hw.1 c74
      refine v_iconst (v := 0) (pc2 := 141) S dL_areHalls_140 (by decide) rfl ?_
      refine v_icmp_ne (pc2 := 144) (tgt := 148) S dL_areHalls_141 (by decide) rfl (fun c75 => ?_) (fun c75 => ?_)
      · have hw := hw.1 c75
        refine v_iconst (v := 0) (pc2 := 149) S dL_areHalls_148 (by decide) rfl ?_
        refine v_istore (lv2 := [(0, .ref a0.1), (1, .int x1), (2, .int x2), (3, .int x3), (4, .int x4), (5, .int (0 : Int32)), (6, .int x6)]) (pc2 := 151) S dL_areHalls_149 (by decide) [1, 2, 3, 4, 5, 0, 6] rfl rfl ?_
        obtain ⟨z76, ez76⟩ : ∃ y : Int32, y = x6 + (1 : Int32) := ⟨_, rfl⟩
        have hw := hw z76 ez76
        refine v_iinc (v := z76) (lv2 := [(0, .ref a0.1), (1, .int x1), (2, .int x2), (3, .int x3), (4, .int x4), (5, .int (0 : Int32)), (6, .int z76)]) (pc2 := 154) S 6 dL_areHalls_151 rfl (by rw [ez76]; rfl) (by decide) [1, 2, 3, 4, 5, 6, 0] rfl rfl ?_
        refine v_goto (tgt := 15) S dL_areHalls_154 (by decide) ?_
        exact hK15 x1 x2 x3 x4 (0 : Int32) z76 hw
      · have hw := hw.2 c75
        refine v_iconst (v := 1) (pc2 := 145) S dL_areHalls_144 (by decide) rfl ?_
        refine v_goto (tgt := 149) S dL_areHalls_145 (by decide) ?_
        refine v_istore (lv2 := [(0, .ref a0.1), (1, .int x1), (2, .int x2), (3, .int x3), (4, .int x4), (5, .int (1 : Int32)), (6, .int x6)]) (pc2 := 151) S dL_areHalls_149 (by decide) [1, 2, 3, 4, 5, 0, 6] rfl rfl ?_
        obtain ⟨z77, ez77⟩ : ∃ y : Int32, y = x6 + (1 : Int32) := ⟨_, rfl⟩
        have hw := hw z77 ez77
        refine v_iinc (v := z77) (lv2 := [(0, .ref a0.1), (1, .int x1), (2, .int x2), (3, .int x3), (4, .int x4), (5, .int (1 : Int32)), (6, .int z77)]) (pc2 := 154) S 6 dL_areHalls_151 rfl (by rw [ez77]; rfl) (by decide) [1, 2, 3, 4, 5, 6, 0] rfl rfl ?_
        refine v_goto (tgt := 15) S dL_areHalls_154 (by decide) ?_
        exact hK15 x1 x2 x3 x4 (1 : Int32) z77 hw
    · have hw := hw.2 c74
      refine v_iconst (v := 1) (pc2 := 137) S dL_areHalls_136 (by decide) rfl ?_
      refine v_goto (tgt := 141) S dL_areHalls_137 (by decide) ?_
      refine v_icmp_ne (pc2 := 144) (tgt := 148) S dL_areHalls_141 (by decide) rfl (fun c78 => ?_) (fun c78 => ?_)
      · have hw := hw.1 c78
        refine v_iconst (v := 0) (pc2 := 149) S dL_areHalls_148 (by decide) rfl ?_
        refine v_istore (lv2 := [(0, .ref a0.1), (1, .int x1), (2, .int x2), (3, .int x3), (4, .int x4), (5, .int (0 : Int32)), (6, .int x6)]) (pc2 := 151) S dL_areHalls_149 (by decide) [1, 2, 3, 4, 5, 0, 6] rfl rfl ?_
        obtain ⟨z79, ez79⟩ : ∃ y : Int32, y = x6 + (1 : Int32) := ⟨_, rfl⟩
        have hw := hw z79 ez79
        refine v_iinc (v := z79) (lv2 := [(0, .ref a0.1), (1, .int x1), (2, .int x2), (3, .int x3), (4, .int x4), (5, .int (0 : Int32)), (6, .int z79)]) (pc2 := 154) S 6 dL_areHalls_151 rfl (by rw [ez79]; rfl) (by decide) [1, 2, 3, 4, 5, 6, 0] rfl rfl ?_
        refine v_goto (tgt := 15) S dL_areHalls_154 (by decide) ?_
        exact hK15 x1 x2 x3 x4 (0 : Int32) z79 hw
      · have hw := hw.2 c78
        refine v_iconst (v := 1) (pc2 := 145) S dL_areHalls_144 (by decide) rfl ?_
        refine v_goto (tgt := 149) S dL_areHalls_145 (by decide) ?_
        refine v_istore (lv2 := [(0, .ref a0.1), (1, .int x1), (2, .int x2), (3, .int x3), (4, .int x4), (5, .int (1 : Int32)), (6, .int x6)]) (pc2 := 151) S dL_areHalls_149 (by decide) [1, 2, 3, 4, 5, 0, 6] rfl rfl ?_
        obtain ⟨z80, ez80⟩ : ∃ y : Int32, y = x6 + (1 : Int32) := ⟨_, rfl⟩
        have hw := hw z80 ez80
        refine v_iinc (v := z80) (lv2 := [(0, .ref a0.1), (1, .int x1), (2, .int x2), (3, .int x3), (4, .int x4), (5, .int (1 : Int32)), (6, .int z80)]) (pc2 := 154) S 6 dL_areHalls_151 rfl (by rw [ez80]; rfl) (by decide) [1, 2, 3, 4, 5, 6, 0] rfl rfl ?_
        refine v_goto (tgt := 15) S dL_areHalls_154 (by decide) ?_
        exact hK15 x1 x2 x3 x4 (1 : Int32) z80 hw
  have L15 : ∀ (kk : Nat) (x1 : Int32) (x2 : Int32) (x3 : Int32) (x4 : Int32) (x5 : Int32) (x6 : Int32), wp_L_areHalls_L15 v0 Q kk x1 x2 x3 x4 x5 x6 → V p l e { frames := 6, cells := 0, slots := 0, locals := 132 } s m args below meth c G (va_A (wCD G a0 v0.1 v0.2.1 v0.2.2.1 v0.2.2.2.1 v0.2.2.2.2.1 v0.2.2.2.2.2.1 v0.2.2.2.2.2.2) s.heap.size) 10 0 0 (MQ below (EQ G (wCD G a0 v0.1 v0.2.1 v0.2.2.1 v0.2.2.2.1 v0.2.2.2.2.1 v0.2.2.2.2.2.1 v0.2.2.2.2.2.2) s.heap.size (PB (fun _ : Unit => wCD G a0 v0.1 v0.2.1 v0.2.2.1 v0.2.2.2.1 v0.2.2.2.2.1 v0.2.2.2.2.2.1 v0.2.2.2.2.2.2) (fun r _ => Q r))) args s 0 0 (va_A (wCD G a0 v0.1 v0.2.1 v0.2.2.1 v0.2.2.2.1 v0.2.2.2.2.1 v0.2.2.2.2.2.1 v0.2.2.2.2.2.2) s.heap.size)) (wCD G a0 v0.1 v0.2.1 v0.2.2.1 v0.2.2.2.1 v0.2.2.2.2.1 v0.2.2.2.2.2.1 v0.2.2.2.2.2.2) 15 [(0, .ref a0.1), (1, .int x1), (2, .int x2), (3, .int x3), (4, .int x4), (5, .int x5), (6, .int x6)] [] := by
    intro kk
    induction kk with
    | zero => intro x1 x2 x3 x4 x5 x6 hw; exact hw.elim
    | succ n ih =>
      intro x1 x2 x3 x4 x5 x6 hw
      refine v_iload (pc2 := 17) S 6 dL_areHalls_15 rfl rfl ?_
      refine v_bipush (v := 6) (pc2 := 19) S dL_areHalls_17 (by decide) rfl ?_
      refine v_icmp_ge (pc2 := 22) (tgt := 157) S dL_areHalls_19 (by decide) rfl (fun c1 => ?_) (fun c1 => ?_)
      · have hw := hw.1 c1
        refine v_iconst (v := 0) (pc2 := 158) S dL_areHalls_157 (by decide) rfl ?_
        refine v_istore (lv2 := [(0, .ref a0.1), (1, .int x1), (2, .int x2), (3, .int x3), (4, .int x4), (5, .int x5), (6, .int (0 : Int32))]) (pc2 := 160) S dL_areHalls_158 (by decide) [1, 2, 3, 4, 5, 6, 0] rfl rfl ?_
        refine v_iconst (v := 0) (pc2 := 161) S dL_areHalls_160 (by decide) rfl ?_
        refine v_istore (lv2 := [(0, .ref a0.1), (1, .int x1), (2, .int x2), (3, .int x3), (4, .int x4), (5, .int x5), (6, .int (0 : Int32)), (7, .int (0 : Int32))]) (pc2 := 163) S dL_areHalls_161 (by decide) [1, 2, 3, 4, 5, 6, 7, 0] rfl rfl ?_
        obtain ⟨kk, hw⟩ := hw
        exact L163 x1 x2 x3 x4 kk x5 (0 : Int32) (0 : Int32) hw
      · have hw := hw.2 c1
        refine v_iload (pc2 := 24) S 5 dL_areHalls_22 rfl rfl ?_
        refine v_if_eq (pc2 := 27) (tgt := 157) S dL_areHalls_24 (by decide) rfl (fun c42 => ?_) (fun c42 => ?_)
        · have hw := hw.1 c42
          refine v_iconst (v := 0) (pc2 := 158) S dL_areHalls_157 (by decide) rfl ?_
          refine v_istore (lv2 := [(0, .ref a0.1), (1, .int x1), (2, .int x2), (3, .int x3), (4, .int x4), (5, .int x5), (6, .int (0 : Int32))]) (pc2 := 160) S dL_areHalls_158 (by decide) [1, 2, 3, 4, 5, 6, 0] rfl rfl ?_
          refine v_iconst (v := 0) (pc2 := 161) S dL_areHalls_160 (by decide) rfl ?_
          refine v_istore (lv2 := [(0, .ref a0.1), (1, .int x1), (2, .int x2), (3, .int x3), (4, .int x4), (5, .int x5), (6, .int (0 : Int32)), (7, .int (0 : Int32))]) (pc2 := 163) S dL_areHalls_161 (by decide) [1, 2, 3, 4, 5, 6, 7, 0] rfl rfl ?_
          obtain ⟨kk, hw⟩ := hw
          exact L163 x1 x2 x3 x4 kk x5 (0 : Int32) (0 : Int32) hw
        · have hw := hw.2 c42
          refine v_iload_n (pc2 := 28) S 1 dL_areHalls_27 rfl rfl rfl ?_
          refine v_aload_n (pc2 := 29) S 0 dL_areHalls_28 rfl rfl rfl ?_
          refine v_iload (pc2 := 31) S 6 dL_areHalls_29 rfl rfl ?_
          refine v_iconst (v := 0) (pc2 := 32) S dL_areHalls_31 (by decide) rfl ?_
          refine v_callV (pc2 := 35) (As := [.int x6, .int (0 : Int32)]) (rest := [.int x1]) S (c_X8_hall l G a0 v0 x6 (0 : Int32) _ hw) mf_X8_hall u_524 u_525 u_526 0 8 rfl rfl rfl rfl ⟨rfl, rfl⟩ ⟨Nat.le_of_ble_eq_true rfl, Nat.le_of_ble_eq_true rfl⟩ ⟨Nat.le_of_ble_eq_true rfl, Nat.le_of_ble_eq_true rfl⟩ (Nat.le_of_ble_eq_true rfl) dL_areHalls_32 (frW _) rfl (pi (fun r43 u44 hw => ?_))
          refine v_to (wCD G a0 v0.1 v0.2.1 v0.2.2.1 v0.2.2.2.1 v0.2.2.2.2.1 v0.2.2.2.2.2.1 v0.2.2.2.2.2.2) 35 [(0, .ref a0.1), (1, .int x1), (2, .int x2), (3, .int x3), (4, .int x4), (5, .int x5), (6, .int x6)] _ [.int r43, .int x1] rfl rfl rfl rfl ?_
          refine v_iadd (pc2 := 36) S dL_areHalls_35 rfl ?_
          refine v_nm (fun z45 ez45 => ?_)
          have hw := hw z45 ez45
          refine v_istore_n (lv2 := [(0, .ref a0.1), (1, .int z45), (2, .int x2), (3, .int x3), (4, .int x4), (5, .int x5), (6, .int x6)]) (pc2 := 37) S dL_areHalls_36 rfl (by decide) [1, 0, 2, 3, 4, 5, 6] rfl rfl ?_
          refine v_iload_n (pc2 := 38) S 2 dL_areHalls_37 rfl rfl rfl ?_
          refine v_aload_n (pc2 := 39) S 0 dL_areHalls_38 rfl rfl rfl ?_
          refine v_iload (pc2 := 41) S 6 dL_areHalls_39 rfl rfl ?_
          refine v_iconst (v := 1) (pc2 := 42) S dL_areHalls_41 (by decide) rfl ?_
          refine v_callV (pc2 := 45) (As := [.int x6, .int (1 : Int32)]) (rest := [.int x2]) S (c_X8_hall l G a0 v0 x6 (1 : Int32) _ hw) mf_X8_hall u_524 u_525 u_526 0 8 rfl rfl rfl rfl ⟨rfl, rfl⟩ ⟨Nat.le_of_ble_eq_true rfl, Nat.le_of_ble_eq_true rfl⟩ ⟨Nat.le_of_ble_eq_true rfl, Nat.le_of_ble_eq_true rfl⟩ (Nat.le_of_ble_eq_true rfl) dL_areHalls_42 (frW _) rfl (pi (fun r46 u47 hw => ?_))
          refine v_to (wCD G a0 v0.1 v0.2.1 v0.2.2.1 v0.2.2.2.1 v0.2.2.2.2.1 v0.2.2.2.2.2.1 v0.2.2.2.2.2.2) 45 [(0, .ref a0.1), (1, .int z45), (2, .int x2), (3, .int x3), (4, .int x4), (5, .int x5), (6, .int x6)] _ [.int r46, .int x2] rfl rfl rfl rfl ?_
          refine v_iadd (pc2 := 46) S dL_areHalls_45 rfl ?_
          refine v_nm (fun z48 ez48 => ?_)
          have hw := hw z48 ez48
          refine v_istore_n (lv2 := [(0, .ref a0.1), (1, .int z45), (2, .int z48), (3, .int x3), (4, .int x4), (5, .int x5), (6, .int x6)]) (pc2 := 47) S dL_areHalls_46 rfl (by decide) [1, 2, 0, 3, 4, 5, 6] rfl rfl ?_
          refine v_iload_n (pc2 := 48) S 3 dL_areHalls_47 rfl rfl rfl ?_
          refine v_aload_n (pc2 := 49) S 0 dL_areHalls_48 rfl rfl rfl ?_
          refine v_iload (pc2 := 51) S 6 dL_areHalls_49 rfl rfl ?_
          refine v_iconst (v := 2) (pc2 := 52) S dL_areHalls_51 (by decide) rfl ?_
          refine v_callV (pc2 := 55) (As := [.int x6, .int (2 : Int32)]) (rest := [.int x3]) S (c_X8_hall l G a0 v0 x6 (2 : Int32) _ hw) mf_X8_hall u_524 u_525 u_526 0 8 rfl rfl rfl rfl ⟨rfl, rfl⟩ ⟨Nat.le_of_ble_eq_true rfl, Nat.le_of_ble_eq_true rfl⟩ ⟨Nat.le_of_ble_eq_true rfl, Nat.le_of_ble_eq_true rfl⟩ (Nat.le_of_ble_eq_true rfl) dL_areHalls_52 (frW _) rfl (pi (fun r49 u50 hw => ?_))
          refine v_to (wCD G a0 v0.1 v0.2.1 v0.2.2.1 v0.2.2.2.1 v0.2.2.2.2.1 v0.2.2.2.2.2.1 v0.2.2.2.2.2.2) 55 [(0, .ref a0.1), (1, .int z45), (2, .int z48), (3, .int x3), (4, .int x4), (5, .int x5), (6, .int x6)] _ [.int r49, .int x3] rfl rfl rfl rfl ?_
          refine v_iadd (pc2 := 56) S dL_areHalls_55 rfl ?_
          refine v_nm (fun z51 ez51 => ?_)
          have hw := hw z51 ez51
          refine v_istore_n (lv2 := [(0, .ref a0.1), (1, .int z45), (2, .int z48), (3, .int z51), (4, .int x4), (5, .int x5), (6, .int x6)]) (pc2 := 57) S dL_areHalls_56 rfl (by decide) [1, 2, 3, 0, 4, 5, 6] rfl rfl ?_
          refine v_iload (pc2 := 59) S 4 dL_areHalls_57 rfl rfl ?_
          refine v_aload_n (pc2 := 60) S 0 dL_areHalls_59 rfl rfl rfl ?_
          refine v_iload (pc2 := 62) S 6 dL_areHalls_60 rfl rfl ?_
          refine v_iconst (v := 3) (pc2 := 63) S dL_areHalls_62 (by decide) rfl ?_
          refine v_callV (pc2 := 66) (As := [.int x6, .int (3 : Int32)]) (rest := [.int x4]) S (c_X8_hall l G a0 v0 x6 (3 : Int32) _ hw) mf_X8_hall u_524 u_525 u_526 0 8 rfl rfl rfl rfl ⟨rfl, rfl⟩ ⟨Nat.le_of_ble_eq_true rfl, Nat.le_of_ble_eq_true rfl⟩ ⟨Nat.le_of_ble_eq_true rfl, Nat.le_of_ble_eq_true rfl⟩ (Nat.le_of_ble_eq_true rfl) dL_areHalls_63 (frW _) rfl (pi (fun r52 u53 hw => ?_))
          refine v_to (wCD G a0 v0.1 v0.2.1 v0.2.2.1 v0.2.2.2.1 v0.2.2.2.2.1 v0.2.2.2.2.2.1 v0.2.2.2.2.2.2) 66 [(0, .ref a0.1), (1, .int z45), (2, .int z48), (3, .int z51), (4, .int x4), (5, .int x5), (6, .int x6)] _ [.int r52, .int x4] rfl rfl rfl rfl ?_
          refine v_iconst (v := 1) (pc2 := 67) S dL_areHalls_66 (by decide) rfl ?_
          refine v_isub (pc2 := 68) S dL_areHalls_67 rfl ?_
          refine v_iadd (pc2 := 69) S dL_areHalls_68 rfl ?_
          refine v_nm (fun z54 ez54 => ?_)
          have hw := hw z54 ez54
          refine v_istore (lv2 := [(0, .ref a0.1), (1, .int z45), (2, .int z48), (3, .int z51), (4, .int z54), (5, .int x5), (6, .int x6)]) (pc2 := 71) S dL_areHalls_69 (by decide) [1, 2, 3, 4, 0, 5, 6] rfl rfl ?_
          refine v_aload_n (pc2 := 72) S 0 dL_areHalls_71 rfl rfl rfl ?_
          refine v_iload (pc2 := 74) S 6 dL_areHalls_72 rfl rfl ?_
          refine v_iconst (v := 1) (pc2 := 75) S dL_areHalls_74 (by decide) rfl ?_
          refine v_callV (pc2 := 78) (As := [.int x6, .int (1 : Int32)]) (rest := []) S (c_X8_hall l G a0 v0 x6 (1 : Int32) _ hw) mf_X8_hall u_524 u_525 u_526 0 8 rfl rfl rfl rfl ⟨rfl, rfl⟩ ⟨Nat.le_of_ble_eq_true rfl, Nat.le_of_ble_eq_true rfl⟩ ⟨Nat.le_of_ble_eq_true rfl, Nat.le_of_ble_eq_true rfl⟩ (Nat.le_of_ble_eq_true rfl) dL_areHalls_75 (frW _) rfl (pi (fun r55 u56 hw => ?_))
          refine v_to (wCD G a0 v0.1 v0.2.1 v0.2.2.1 v0.2.2.2.1 v0.2.2.2.2.1 v0.2.2.2.2.2.1 v0.2.2.2.2.2.2) 78 [(0, .ref a0.1), (1, .int z45), (2, .int z48), (3, .int z51), (4, .int z54), (5, .int x5), (6, .int x6)] _ [.int r55] rfl rfl rfl rfl ?_
          refine v_aload_n (pc2 := 79) S 0 dL_areHalls_78 rfl rfl rfl ?_
          refine v_iload (pc2 := 81) S 6 dL_areHalls_79 rfl rfl ?_
          refine v_iconst (v := 0) (pc2 := 82) S dL_areHalls_81 (by decide) rfl ?_
          refine v_callV (pc2 := 85) (As := [.int x6, .int (0 : Int32)]) (rest := [.int r55]) S (c_X8_hall l G a0 v0 x6 (0 : Int32) _ hw) mf_X8_hall u_524 u_525 u_526 0 8 rfl rfl rfl rfl ⟨rfl, rfl⟩ ⟨Nat.le_of_ble_eq_true rfl, Nat.le_of_ble_eq_true rfl⟩ ⟨Nat.le_of_ble_eq_true rfl, Nat.le_of_ble_eq_true rfl⟩ (Nat.le_of_ble_eq_true rfl) dL_areHalls_82 (frW _) rfl (pi (fun r57 u58 hw => ?_))
          refine v_to (wCD G a0 v0.1 v0.2.1 v0.2.2.1 v0.2.2.2.1 v0.2.2.2.2.1 v0.2.2.2.2.2.1 v0.2.2.2.2.2.2) 85 [(0, .ref a0.1), (1, .int z45), (2, .int z48), (3, .int z51), (4, .int z54), (5, .int x5), (6, .int x6)] _ [.int r57, .int r55] rfl rfl rfl rfl ?_
          refine v_icmp_gt (pc2 := 88) (tgt := 148) S dL_areHalls_85 (by decide) rfl (fun c59 => ?_) (fun c59 => ?_)
          · have hw := hw.1 c59
            refine v_iconst (v := 0) (pc2 := 149) S dL_areHalls_148 (by decide) rfl ?_
            refine v_istore (lv2 := [(0, .ref a0.1), (1, .int z45), (2, .int z48), (3, .int z51), (4, .int z54), (5, .int (0 : Int32)), (6, .int x6)]) (pc2 := 151) S dL_areHalls_149 (by decide) [1, 2, 3, 4, 5, 0, 6] rfl rfl ?_
            obtain ⟨z60, ez60⟩ : ∃ y : Int32, y = x6 + (1 : Int32) := ⟨_, rfl⟩
            have hw := hw z60 ez60
            refine v_iinc (v := z60) (lv2 := [(0, .ref a0.1), (1, .int z45), (2, .int z48), (3, .int z51), (4, .int z54), (5, .int (0 : Int32)), (6, .int z60)]) (pc2 := 154) S 6 dL_areHalls_151 rfl (by rw [ez60]; rfl) (by decide) [1, 2, 3, 4, 5, 6, 0] rfl rfl ?_
            refine v_goto (tgt := 15) S dL_areHalls_154 (by decide) ?_
            exact ih z45 z48 z51 z54 (0 : Int32) z60 hw
          · have hw := hw.2 c59
            refine v_aload_n (pc2 := 89) S 0 dL_areHalls_88 rfl rfl rfl ?_
            refine v_iload (pc2 := 91) S 6 dL_areHalls_89 rfl rfl ?_
            refine v_iconst (v := 3) (pc2 := 92) S dL_areHalls_91 (by decide) rfl ?_
            refine v_callV (pc2 := 95) (As := [.int x6, .int (3 : Int32)]) (rest := []) S (c_X8_hall l G a0 v0 x6 (3 : Int32) _ hw) mf_X8_hall u_524 u_525 u_526 0 8 rfl rfl rfl rfl ⟨rfl, rfl⟩ ⟨Nat.le_of_ble_eq_true rfl, Nat.le_of_ble_eq_true rfl⟩ ⟨Nat.le_of_ble_eq_true rfl, Nat.le_of_ble_eq_true rfl⟩ (Nat.le_of_ble_eq_true rfl) dL_areHalls_92 (frW _) rfl (pi (fun r61 u62 hw => ?_))
            refine v_to (wCD G a0 v0.1 v0.2.1 v0.2.2.1 v0.2.2.2.1 v0.2.2.2.2.1 v0.2.2.2.2.2.1 v0.2.2.2.2.2.2) 95 [(0, .ref a0.1), (1, .int z45), (2, .int z48), (3, .int z51), (4, .int z54), (5, .int x5), (6, .int x6)] _ [.int r61] rfl rfl rfl rfl ?_
            refine v_if_le (pc2 := 98) (tgt := 148) S dL_areHalls_95 (by decide) rfl (fun c63 => ?_) (fun c63 => ?_)
            · have hw := hw.1 c63
              refine v_iconst (v := 0) (pc2 := 149) S dL_areHalls_148 (by decide) rfl ?_
              refine v_istore (lv2 := [(0, .ref a0.1), (1, .int z45), (2, .int z48), (3, .int z51), (4, .int z54), (5, .int (0 : Int32)), (6, .int x6)]) (pc2 := 151) S dL_areHalls_149 (by decide) [1, 2, 3, 4, 5, 0, 6] rfl rfl ?_
              obtain ⟨z64, ez64⟩ : ∃ y : Int32, y = x6 + (1 : Int32) := ⟨_, rfl⟩
              have hw := hw z64 ez64
              refine v_iinc (v := z64) (lv2 := [(0, .ref a0.1), (1, .int z45), (2, .int z48), (3, .int z51), (4, .int z54), (5, .int (0 : Int32)), (6, .int z64)]) (pc2 := 154) S 6 dL_areHalls_151 rfl (by rw [ez64]; rfl) (by decide) [1, 2, 3, 4, 5, 6, 0] rfl rfl ?_
              refine v_goto (tgt := 15) S dL_areHalls_154 (by decide) ?_
              exact ih z45 z48 z51 z54 (0 : Int32) z64 hw
            · have hw := hw.2 c63
              refine v_aload_n (pc2 := 99) S 0 dL_areHalls_98 rfl rfl rfl ?_
              refine v_iload (pc2 := 101) S 6 dL_areHalls_99 rfl rfl ?_
              refine v_iconst (v := 3) (pc2 := 102) S dL_areHalls_101 (by decide) rfl ?_
              refine v_callV (pc2 := 105) (As := [.int x6, .int (3 : Int32)]) (rest := []) S (c_X8_hall l G a0 v0 x6 (3 : Int32) _ hw) mf_X8_hall u_524 u_525 u_526 0 8 rfl rfl rfl rfl ⟨rfl, rfl⟩ ⟨Nat.le_of_ble_eq_true rfl, Nat.le_of_ble_eq_true rfl⟩ ⟨Nat.le_of_ble_eq_true rfl, Nat.le_of_ble_eq_true rfl⟩ (Nat.le_of_ble_eq_true rfl) dL_areHalls_102 (frW _) rfl (pi (fun r65 u66 hw => ?_))
              refine v_to (wCD G a0 v0.1 v0.2.1 v0.2.2.1 v0.2.2.2.1 v0.2.2.2.2.1 v0.2.2.2.2.2.1 v0.2.2.2.2.2.2) 105 [(0, .ref a0.1), (1, .int z45), (2, .int z48), (3, .int z51), (4, .int z54), (5, .int x5), (6, .int x6)] _ [.int r65] rfl rfl rfl rfl ?_
              refine v_bipush (v := 6) (pc2 := 107) S dL_areHalls_105 (by decide) rfl ?_
              refine v_icmp_gt (pc2 := 110) (tgt := 148) S dL_areHalls_107 (by decide) rfl (fun c67 => ?_) (fun c67 => ?_)
              · have hw := hw.1 c67
                refine v_iconst (v := 0) (pc2 := 149) S dL_areHalls_148 (by decide) rfl ?_
                refine v_istore (lv2 := [(0, .ref a0.1), (1, .int z45), (2, .int z48), (3, .int z51), (4, .int z54), (5, .int (0 : Int32)), (6, .int x6)]) (pc2 := 151) S dL_areHalls_149 (by decide) [1, 2, 3, 4, 5, 0, 6] rfl rfl ?_
                obtain ⟨z68, ez68⟩ : ∃ y : Int32, y = x6 + (1 : Int32) := ⟨_, rfl⟩
                have hw := hw z68 ez68
                refine v_iinc (v := z68) (lv2 := [(0, .ref a0.1), (1, .int z45), (2, .int z48), (3, .int z51), (4, .int z54), (5, .int (0 : Int32)), (6, .int z68)]) (pc2 := 154) S 6 dL_areHalls_151 rfl (by rw [ez68]; rfl) (by decide) [1, 2, 3, 4, 5, 6, 0] rfl rfl ?_
                refine v_goto (tgt := 15) S dL_areHalls_154 (by decide) ?_
                exact ih z45 z48 z51 z54 (0 : Int32) z68 hw
              · have hw := hw.2 c67
                refine v_aload_n (pc2 := 111) S 0 dL_areHalls_110 rfl rfl rfl ?_
                refine v_iload (pc2 := 113) S 6 dL_areHalls_111 rfl rfl ?_
                refine v_iconst (v := 1) (pc2 := 114) S dL_areHalls_113 (by decide) rfl ?_
                refine v_callV (pc2 := 117) (As := [.int x6, .int (1 : Int32)]) (rest := []) S (c_X8_hall l G a0 v0 x6 (1 : Int32) _ hw) mf_X8_hall u_524 u_525 u_526 0 8 rfl rfl rfl rfl ⟨rfl, rfl⟩ ⟨Nat.le_of_ble_eq_true rfl, Nat.le_of_ble_eq_true rfl⟩ ⟨Nat.le_of_ble_eq_true rfl, Nat.le_of_ble_eq_true rfl⟩ (Nat.le_of_ble_eq_true rfl) dL_areHalls_114 (frW _) rfl (pi (fun r69 u70 hw => ?_))
                refine v_to (wCD G a0 v0.1 v0.2.1 v0.2.2.1 v0.2.2.2.1 v0.2.2.2.2.1 v0.2.2.2.2.2.1 v0.2.2.2.2.2.2) 117 [(0, .ref a0.1), (1, .int z45), (2, .int z48), (3, .int z51), (4, .int z54), (5, .int x5), (6, .int x6)] _ [.int r69] rfl rfl rfl rfl ?_
                refine v_if_le (pc2 := 120) (tgt := 124) S dL_areHalls_117 (by decide) rfl (fun c71 => ?_) (fun c71 => ?_)
                · have hw := hw.1 c71
                  refine v_iconst (v := 0) (pc2 := 125) S dL_areHalls_124 (by decide) rfl ?_
                  refine v_lv [(0, .ref a0.1), (1, .int z45), (2, .int z48), (3, .int z51), (4, .int z54), (6, .int x6)] [0, 1, 2, 3, 4, 6] rfl ?_
                  exact B125 z45 z48 z51 z54 x6 (0 : Int32) (wp_L_areHalls_L15 v0 Q n) ih hw
                · have hw := hw.2 c71
                  refine v_iconst (v := 1) (pc2 := 121) S dL_areHalls_120 (by decide) rfl ?_
                  refine v_goto (tgt := 125) S dL_areHalls_121 (by decide) ?_
                  refine v_lv [(0, .ref a0.1), (1, .int z45), (2, .int z48), (3, .int z51), (4, .int z54), (6, .int x6)] [0, 1, 2, 3, 4, 6] rfl ?_
                  exact B125 z45 z48 z51 z54 x6 (1 : Int32) (wp_L_areHalls_L15 v0 Q n) ih hw
  refine v_iconst (v := 0) (pc2 := 1) S dL_areHalls_0 (by decide) rfl ?_
  refine v_istore_n (lv2 := [(0, .ref a0.1), (1, .int (0 : Int32))]) (pc2 := 2) S dL_areHalls_1 rfl (by decide) [1, 0] rfl rfl ?_
  refine v_iconst (v := 0) (pc2 := 3) S dL_areHalls_2 (by decide) rfl ?_
  refine v_istore_n (lv2 := [(0, .ref a0.1), (1, .int (0 : Int32)), (2, .int (0 : Int32))]) (pc2 := 4) S dL_areHalls_3 rfl (by decide) [1, 2, 0] rfl rfl ?_
  refine v_iconst (v := 0) (pc2 := 5) S dL_areHalls_4 (by decide) rfl ?_
  refine v_istore_n (lv2 := [(0, .ref a0.1), (1, .int (0 : Int32)), (2, .int (0 : Int32)), (3, .int (0 : Int32))]) (pc2 := 6) S dL_areHalls_5 rfl (by decide) [1, 2, 3, 0] rfl rfl ?_
  refine v_iconst (v := 0) (pc2 := 7) S dL_areHalls_6 (by decide) rfl ?_
  refine v_istore (lv2 := [(0, .ref a0.1), (1, .int (0 : Int32)), (2, .int (0 : Int32)), (3, .int (0 : Int32)), (4, .int (0 : Int32))]) (pc2 := 9) S dL_areHalls_7 (by decide) [1, 2, 3, 4, 0] rfl rfl ?_
  refine v_iconst (v := 1) (pc2 := 10) S dL_areHalls_9 (by decide) rfl ?_
  refine v_istore (lv2 := [(0, .ref a0.1), (1, .int (0 : Int32)), (2, .int (0 : Int32)), (3, .int (0 : Int32)), (4, .int (0 : Int32)), (5, .int (1 : Int32))]) (pc2 := 12) S dL_areHalls_10 (by decide) [1, 2, 3, 4, 5, 0] rfl rfl ?_
  refine v_iconst (v := 0) (pc2 := 13) S dL_areHalls_12 (by decide) rfl ?_
  refine v_istore (lv2 := [(0, .ref a0.1), (1, .int (0 : Int32)), (2, .int (0 : Int32)), (3, .int (0 : Int32)), (4, .int (0 : Int32)), (5, .int (1 : Int32)), (6, .int (0 : Int32))]) (pc2 := 15) S dL_areHalls_13 (by decide) [1, 2, 3, 4, 5, 6, 0] rfl rfl ?_
  obtain ⟨kk, hw⟩ := hw
  exact L15 kk (0 : Int32) (0 : Int32) (0 : Int32) (0 : Int32) (1 : Int32) (0 : Int32) hw
set_option maxHeartbeats 4000000 in
set_option maxRecDepth 100000 in
theorem c_L_refusesAny (l : Launch) (G : GG) (a0 : CDA) (v0 : CDV) (i0 : Int32) (Q : Int32 → CDV → Prop) (hw : wp_L_refusesAny v0 i0 Q) : Con l G yL_refusesAny cL_refusesAny 8 (some .boolean) { frames := 16, cells := 0, slots := 0, locals := 375 } [.ref a0.1, .int i0] (wCD G a0 v0.1 v0.2.1 v0.2.2.1 v0.2.2.2.1 v0.2.2.2.2.1 v0.2.2.2.2.2.1 v0.2.2.2.2.2.2) (PB (fun u : CDV => wCD G a0 u.1 u.2.1 u.2.2.1 u.2.2.2.1 u.2.2.2.2.1 u.2.2.2.2.2.1 u.2.2.2.2.2.2) Q) 0 0 := by
  refine con_of RL rfl (by decide) [(0, .ref a0.1), (1, .int i0)] rfl (Nat.le_of_ble_eq_true rfl) ?_
  intro p e s m args below meth c S hname
  have B647 : ∀ (t0 : Int32) (w0 : CDV), wp_L_refusesAny_B647 t0 w0 Q → V p l e { frames := 16, cells := 0, slots := 0, locals := 375 } s m args below meth c G (va_A (wCD G a0 v0.1 v0.2.1 v0.2.2.1 v0.2.2.2.1 v0.2.2.2.2.1 v0.2.2.2.2.2.1 v0.2.2.2.2.2.2) s.heap.size) 8 0 0 (MQ below (EQ G (wCD G a0 v0.1 v0.2.1 v0.2.2.1 v0.2.2.2.1 v0.2.2.2.2.1 v0.2.2.2.2.2.1 v0.2.2.2.2.2.2) s.heap.size (PB (fun u : CDV => wCD G a0 u.1 u.2.1 u.2.2.1 u.2.2.2.1 u.2.2.2.2.1 u.2.2.2.2.2.1 u.2.2.2.2.2.2) Q)) args s 0 0 (va_A (wCD G a0 v0.1 v0.2.1 v0.2.2.1 v0.2.2.2.1 v0.2.2.2.2.1 v0.2.2.2.2.2.1 v0.2.2.2.2.2.2) s.heap.size)) (wCD G a0 w0.1 w0.2.1 w0.2.2.1 w0.2.2.2.1 w0.2.2.2.2.1 w0.2.2.2.2.2.1 w0.2.2.2.2.2.2) 647 [(0, .ref a0.1)] [.int t0] := by
    intro t0 w0 hw
    refine v_istore (lv2 := [(0, .ref a0.1), (7, .int t0)]) (pc2 := 649) S dL_refusesAny_647 (by decide) [1, 0] rfl rfl ?_
    refine v_iload (pc2 := 651) S 1 dL_refusesAny_649 rfl rfl ?_
    refine v_if_eq (pc2 := 654) (tgt := 681) S dL_refusesAny_651 (by decide) rfl (fun c10 => ?_) (fun c10 => ?_)
    · have hw := hw.1 c10
      refine v_iconst (v := 0) (pc2 := 682) S dL_refusesAny_681 (by decide) rfl ?_
      exact v_zret S (by decide) ⟨(0 : Int32), w0, rfl, (by decide), rfl, hw⟩ dL_refusesAny_682
    · have hw := hw.2 c10
      refine v_aload_n (pc2 := 655) S 0 dL_refusesAny_654 rfl rfl rfl ?_
      refine v_callV (pc2 := 658) (As := []) (rest := []) S (c_X8_clear l G a0 w0 _ hw) mf_X8_clear u_681 u_682 u_683 0 8 rfl rfl rfl rfl ⟨rfl, rfl⟩ ⟨Nat.le_of_ble_eq_true rfl, Nat.le_of_ble_eq_true rfl⟩ ⟨Nat.le_of_ble_eq_true rfl, Nat.le_of_ble_eq_true rfl⟩ (Nat.le_of_ble_eq_true rfl) dL_refusesAny_655 (frW _) rfl (pi (fun r11 u12 hw => ?_))
      refine v_to (wCD G a0 u12.1 u12.2.1 u12.2.2.1 u12.2.2.2.1 u12.2.2.2.2.1 u12.2.2.2.2.2.1 u12.2.2.2.2.2.2) 658 [(0, .ref a0.1), (7, .int t0)] _ [.int r11] rfl rfl rfl rfl ?_
      refine v_if_ne (pc2 := 661) (tgt := 681) S dL_refusesAny_658 (by decide) rfl (fun c13 => ?_) (fun c13 => ?_)
      · have hw := hw.1 c13
        refine v_iconst (v := 0) (pc2 := 682) S dL_refusesAny_681 (by decide) rfl ?_
        exact v_zret S (by decide) ⟨(0 : Int32), u12, rfl, (by decide), rfl, hw⟩ dL_refusesAny_682
      · have hw := hw.2 c13
        refine v_aload_n (pc2 := 662) S 0 dL_refusesAny_661 rfl rfl rfl ?_
        refine v_callV (pc2 := 665) (As := []) (rest := []) S (c_X8_run l G a0 u12 _ hw) mf_X8_run u_689 u_690 u_691 0 8 rfl rfl rfl rfl ⟨rfl, rfl⟩ ⟨Nat.le_of_ble_eq_true rfl, Nat.le_of_ble_eq_true rfl⟩ ⟨Nat.le_of_ble_eq_true rfl, Nat.le_of_ble_eq_true rfl⟩ (Nat.le_of_ble_eq_true rfl) dL_refusesAny_662 (frW _) rfl (pi (fun r14 u15 hw => ?_))
        refine v_to (wCD G a0 u15.1 u15.2.1 u15.2.2.1 u15.2.2.2.1 u15.2.2.2.2.1 u15.2.2.2.2.2.1 u15.2.2.2.2.2.2) 665 [(0, .ref a0.1), (7, .int t0)] _ [.int r14] rfl rfl rfl rfl ?_
        refine v_bipush (v := -2) (pc2 := 667) S dL_refusesAny_665 (by decide) rfl ?_
        refine v_icmp_ne (pc2 := 670) (tgt := 681) S dL_refusesAny_667 (by decide) rfl (fun c16 => ?_) (fun c16 => ?_)
        · have hw := hw.1 c16
          refine v_iconst (v := 0) (pc2 := 682) S dL_refusesAny_681 (by decide) rfl ?_
          exact v_zret S (by decide) ⟨(0 : Int32), u15, rfl, (by decide), rfl, hw⟩ dL_refusesAny_682
        · have hw := hw.2 c16
          refine v_aload_n (pc2 := 671) S 0 dL_refusesAny_670 rfl rfl rfl ?_
          refine v_callV (pc2 := 674) (As := []) (rest := []) S (c_X8_fault l G a0 u15 _ hw) mf_X8_fault u_743 u_744 u_745 0 8 rfl rfl rfl rfl ⟨rfl, rfl⟩ ⟨Nat.le_of_ble_eq_true rfl, Nat.le_of_ble_eq_true rfl⟩ ⟨Nat.le_of_ble_eq_true rfl, Nat.le_of_ble_eq_true rfl⟩ (Nat.le_of_ble_eq_true rfl) dL_refusesAny_671 (frW _) rfl (pi (fun r17 u18 hw => ?_))
          refine v_to (wCD G a0 u15.1 u15.2.1 u15.2.2.1 u15.2.2.2.1 u15.2.2.2.2.1 u15.2.2.2.2.2.1 u15.2.2.2.2.2.2) 674 [(0, .ref a0.1), (7, .int t0)] _ [.int r17] rfl rfl rfl rfl ?_
          refine v_if_ne (pc2 := 677) (tgt := 681) S dL_refusesAny_674 (by decide) rfl (fun c19 => ?_) (fun c19 => ?_)
          · have hw := hw.1 c19
            refine v_iconst (v := 0) (pc2 := 682) S dL_refusesAny_681 (by decide) rfl ?_
            exact v_zret S (by decide) ⟨(0 : Int32), u15, rfl, (by decide), rfl, hw⟩ dL_refusesAny_682
          · have hw := hw.2 c19
            refine v_iconst (v := 1) (pc2 := 678) S dL_refusesAny_677 (by decide) rfl ?_
            refine v_goto (tgt := 682) S dL_refusesAny_678 (by decide) ?_
            exact v_zret S (by decide) ⟨(1 : Int32), u15, rfl, (by decide), rfl, hw⟩ dL_refusesAny_682
  have B646 : ∀ (w0 : CDV), wp_L_refusesAny_B646 w0 Q → V p l e { frames := 16, cells := 0, slots := 0, locals := 375 } s m args below meth c G (va_A (wCD G a0 v0.1 v0.2.1 v0.2.2.1 v0.2.2.2.1 v0.2.2.2.2.1 v0.2.2.2.2.2.1 v0.2.2.2.2.2.2) s.heap.size) 8 0 0 (MQ below (EQ G (wCD G a0 v0.1 v0.2.1 v0.2.2.1 v0.2.2.2.1 v0.2.2.2.2.1 v0.2.2.2.2.2.1 v0.2.2.2.2.2.2) s.heap.size (PB (fun u : CDV => wCD G a0 u.1 u.2.1 u.2.2.1 u.2.2.2.1 u.2.2.2.2.1 u.2.2.2.2.2.1 u.2.2.2.2.2.2) Q)) args s 0 0 (va_A (wCD G a0 v0.1 v0.2.1 v0.2.2.1 v0.2.2.2.1 v0.2.2.2.2.1 v0.2.2.2.2.2.1 v0.2.2.2.2.2.2) s.heap.size)) (wCD G a0 w0.1 w0.2.1 w0.2.2.1 w0.2.2.2.1 w0.2.2.2.2.1 w0.2.2.2.2.2.1 w0.2.2.2.2.2.2) 646 [(0, .ref a0.1)] [] := by
    intro w0 hw
    refine v_iconst (v := 0) (pc2 := 647) S dL_refusesAny_646 (by decide) rfl ?_
    exact B647 (0 : Int32) w0 hw
  have B635 : ∀ (t1 : Int32) (w0 : CDV), wp_L_refusesAny_B635 t1 w0 Q → V p l e { frames := 16, cells := 0, slots := 0, locals := 375 } s m args below meth c G (va_A (wCD G a0 v0.1 v0.2.1 v0.2.2.1 v0.2.2.2.1 v0.2.2.2.2.1 v0.2.2.2.2.2.1 v0.2.2.2.2.2.2) s.heap.size) 8 0 0 (MQ below (EQ G (wCD G a0 v0.1 v0.2.1 v0.2.2.1 v0.2.2.2.1 v0.2.2.2.2.1 v0.2.2.2.2.2.1 v0.2.2.2.2.2.2) s.heap.size (PB (fun u : CDV => wCD G a0 u.1 u.2.1 u.2.2.1 u.2.2.2.1 u.2.2.2.2.1 u.2.2.2.2.2.1 u.2.2.2.2.2.2) Q)) args s 0 0 (va_A (wCD G a0 v0.1 v0.2.1 v0.2.2.1 v0.2.2.2.1 v0.2.2.2.2.1 v0.2.2.2.2.2.1 v0.2.2.2.2.2.2) s.heap.size)) (wCD G a0 w0.1 w0.2.1 w0.2.2.1 w0.2.2.2.1 w0.2.2.2.2.1 w0.2.2.2.2.2.1 w0.2.2.2.2.2.2) 635 [(0, .ref a0.1)] [.int t1, .ref a0.1] := by
    intro t1 w0 hw
    refine v_callV (pc2 := 638) (As := [.int t1]) (rest := []) S (c_X8_append l G a0 w0 t1 _ hw) mf_X8_append u_673 u_674 u_675 0 8 rfl rfl rfl rfl ⟨rfl, rfl⟩ ⟨Nat.le_of_ble_eq_true rfl, Nat.le_of_ble_eq_true rfl⟩ ⟨Nat.le_of_ble_eq_true rfl, Nat.le_of_ble_eq_true rfl⟩ (Nat.le_of_ble_eq_true rfl) dL_refusesAny_635 (frW _) rfl (pi (fun r77 u78 hw => ?_))
    refine v_to (wCD G a0 u78.1 u78.2.1 u78.2.2.1 u78.2.2.2.1 u78.2.2.2.2.1 u78.2.2.2.2.2.1 u78.2.2.2.2.2.2) 638 [(0, .ref a0.1)] _ [.int r77] rfl rfl rfl rfl ?_
    refine v_iconst (v := -1) (pc2 := 639) S dL_refusesAny_638 (by decide) rfl ?_
    refine v_icmp_ne (pc2 := 642) (tgt := 646) S dL_refusesAny_639 (by decide) rfl (fun c79 => ?_) (fun c79 => ?_)
    · have hw := hw.1 c79
      exact B646 u78 hw
    · have hw := hw.2 c79
      refine v_iconst (v := 1) (pc2 := 643) S dL_refusesAny_642 (by decide) rfl ?_
      refine v_goto (tgt := 647) S dL_refusesAny_643 (by decide) ?_
      exact B647 (1 : Int32) u78 hw
  have B614 : ∀ (x1 : Int32) (t1 : Int32) (w0 : CDV), wp_L_refusesAny_B614 x1 t1 w0 Q → V p l e { frames := 16, cells := 0, slots := 0, locals := 375 } s m args below meth c G (va_A (wCD G a0 v0.1 v0.2.1 v0.2.2.1 v0.2.2.2.1 v0.2.2.2.2.1 v0.2.2.2.2.2.1 v0.2.2.2.2.2.2) s.heap.size) 8 0 0 (MQ below (EQ G (wCD G a0 v0.1 v0.2.1 v0.2.2.1 v0.2.2.2.1 v0.2.2.2.2.1 v0.2.2.2.2.2.1 v0.2.2.2.2.2.2) s.heap.size (PB (fun u : CDV => wCD G a0 u.1 u.2.1 u.2.2.1 u.2.2.2.1 u.2.2.2.2.1 u.2.2.2.2.2.1 u.2.2.2.2.2.2) Q)) args s 0 0 (va_A (wCD G a0 v0.1 v0.2.1 v0.2.2.1 v0.2.2.2.1 v0.2.2.2.2.1 v0.2.2.2.2.2.1 v0.2.2.2.2.2.2) s.heap.size)) (wCD G a0 w0.1 w0.2.1 w0.2.2.1 w0.2.2.2.1 w0.2.2.2.2.1 w0.2.2.2.2.2.1 w0.2.2.2.2.2.2) 614 [(0, .ref a0.1), (1, .int x1)] [.int t1, .ref a0.1] := by
    intro x1 t1 w0 hw
    refine v_callV (pc2 := 617) (As := [.int t1]) (rest := []) S (c_X8_why l G a0 w0 t1 _ hw) mf_X8_why u_665 u_666 u_667 0 8 rfl rfl rfl rfl ⟨rfl, rfl⟩ ⟨Nat.le_of_ble_eq_true rfl, Nat.le_of_ble_eq_true rfl⟩ ⟨Nat.le_of_ble_eq_true rfl, Nat.le_of_ble_eq_true rfl⟩ (Nat.le_of_ble_eq_true rfl) dL_refusesAny_614 (frW _) rfl (pi (fun r73 u74 hw => ?_))
    refine v_to (wCD G a0 w0.1 w0.2.1 w0.2.2.1 w0.2.2.2.1 w0.2.2.2.2.1 w0.2.2.2.2.2.1 w0.2.2.2.2.2.2) 617 [(0, .ref a0.1), (1, .int x1)] _ [.int r73] rfl rfl rfl rfl ?_
    refine v_iconst (v := -1) (pc2 := 618) S dL_refusesAny_617 (by decide) rfl ?_
    refine v_icmp_ne (pc2 := 621) (tgt := 646) S dL_refusesAny_618 (by decide) rfl (fun c75 => ?_) (fun c75 => ?_)
    · have hw := hw.1 c75
      refine v_lv [(0, .ref a0.1)] [0] rfl ?_
      exact B646 w0 hw
    · have hw := hw.2 c75
      refine v_aload_n (pc2 := 622) S 0 dL_refusesAny_621 rfl rfl rfl ?_
      refine v_iload_n (pc2 := 623) S 1 dL_refusesAny_622 rfl rfl rfl ?_
      refine v_iconst (v := 2) (pc2 := 624) S dL_refusesAny_623 (by decide) rfl ?_
      refine v_irem (pc2 := 625) S (by decide) dL_refusesAny_624 rfl ?_
      refine v_if_ne (pc2 := 628) (tgt := 633) S dL_refusesAny_625 (by decide) rfl (fun c76 => ?_) (fun c76 => ?_)
      · have hw := hw.1 c76
        refine v_bipush (v := 127) (pc2 := 635) S dL_refusesAny_633 (by decide) rfl ?_
        refine v_lv [(0, .ref a0.1)] [0] rfl ?_
        exact B635 (127 : Int32) w0 hw
      · have hw := hw.2 c76
        refine v_bipush (v := 32) (pc2 := 630) S dL_refusesAny_628 (by decide) rfl ?_
        refine v_goto (tgt := 635) S dL_refusesAny_630 (by decide) ?_
        refine v_lv [(0, .ref a0.1)] [0] rfl ?_
        exact B635 (32 : Int32) w0 hw
  have B595 : ∀ (x1 : Int32) (t1 : Int32) (t2 : Int32) (w0 : CDV), wp_L_refusesAny_B595 x1 t1 t2 w0 Q → V p l e { frames := 16, cells := 0, slots := 0, locals := 375 } s m args below meth c G (va_A (wCD G a0 v0.1 v0.2.1 v0.2.2.1 v0.2.2.2.1 v0.2.2.2.2.1 v0.2.2.2.2.2.1 v0.2.2.2.2.2.2) s.heap.size) 8 0 0 (MQ below (EQ G (wCD G a0 v0.1 v0.2.1 v0.2.2.1 v0.2.2.2.1 v0.2.2.2.2.1 v0.2.2.2.2.2.1 v0.2.2.2.2.2.2) s.heap.size (PB (fun u : CDV => wCD G a0 u.1 u.2.1 u.2.2.1 u.2.2.2.1 u.2.2.2.2.1 u.2.2.2.2.2.1 u.2.2.2.2.2.2) Q)) args s 0 0 (va_A (wCD G a0 v0.1 v0.2.1 v0.2.2.1 v0.2.2.2.1 v0.2.2.2.2.1 v0.2.2.2.2.2.1 v0.2.2.2.2.2.2) s.heap.size)) (wCD G a0 w0.1 w0.2.1 w0.2.2.1 w0.2.2.2.1 w0.2.2.2.2.1 w0.2.2.2.2.2.1 w0.2.2.2.2.2.2) 595 [(0, .ref a0.1), (1, .int x1)] [.int t2, .int t1, .ref a0.1] := by
    intro x1 t1 t2 w0 hw
    refine v_callV (pc2 := 598) (As := [.int t1, .int t2]) (rest := []) S (c_X8_ifOpened l G a0 w0 t1 t2 _ hw) mf_X8_ifOpened u_659 u_660 u_661 0 8 rfl rfl rfl rfl ⟨rfl, rfl⟩ ⟨Nat.le_of_ble_eq_true rfl, Nat.le_of_ble_eq_true rfl⟩ ⟨Nat.le_of_ble_eq_true rfl, Nat.le_of_ble_eq_true rfl⟩ (Nat.le_of_ble_eq_true rfl) dL_refusesAny_595 (frW _) rfl (pi (fun r69 u70 hw => ?_))
    refine v_to (wCD G a0 w0.1 w0.2.1 w0.2.2.1 w0.2.2.2.1 w0.2.2.2.2.1 w0.2.2.2.2.2.1 w0.2.2.2.2.2.2) 598 [(0, .ref a0.1), (1, .int x1)] _ [.int r69] rfl rfl rfl rfl ?_
    refine v_iconst (v := -1) (pc2 := 599) S dL_refusesAny_598 (by decide) rfl ?_
    refine v_icmp_ne (pc2 := 602) (tgt := 646) S dL_refusesAny_599 (by decide) rfl (fun c71 => ?_) (fun c71 => ?_)
    · have hw := hw.1 c71
      refine v_lv [(0, .ref a0.1)] [0] rfl ?_
      exact B646 w0 hw
    · have hw := hw.2 c71
      refine v_aload_n (pc2 := 603) S 0 dL_refusesAny_602 rfl rfl rfl ?_
      refine v_iload_n (pc2 := 604) S 1 dL_refusesAny_603 rfl rfl rfl ?_
      refine v_iconst (v := 2) (pc2 := 605) S dL_refusesAny_604 (by decide) rfl ?_
      refine v_irem (pc2 := 606) S (by decide) dL_refusesAny_605 rfl ?_
      refine v_if_ne (pc2 := 609) (tgt := 613) S dL_refusesAny_606 (by decide) rfl (fun c72 => ?_) (fun c72 => ?_)
      · have hw := hw.1 c72
        refine v_iconst (v := 3) (pc2 := 614) S dL_refusesAny_613 (by decide) rfl ?_
        exact B614 x1 (3 : Int32) w0 hw
      · have hw := hw.2 c72
        refine v_iconst (v := -1) (pc2 := 610) S dL_refusesAny_609 (by decide) rfl ?_
        refine v_goto (tgt := 614) S dL_refusesAny_610 (by decide) ?_
        exact B614 x1 (-1 : Int32) w0 hw
  have B565 : ∀ (x1 : Int32) (x2 : Int32) (t1 : Int32) (w0 : CDV), wp_L_refusesAny_B565 x1 x2 t1 w0 Q → V p l e { frames := 16, cells := 0, slots := 0, locals := 375 } s m args below meth c G (va_A (wCD G a0 v0.1 v0.2.1 v0.2.2.1 v0.2.2.2.1 v0.2.2.2.2.1 v0.2.2.2.2.2.1 v0.2.2.2.2.2.2) s.heap.size) 8 0 0 (MQ below (EQ G (wCD G a0 v0.1 v0.2.1 v0.2.2.1 v0.2.2.2.1 v0.2.2.2.2.1 v0.2.2.2.2.2.1 v0.2.2.2.2.2.2) s.heap.size (PB (fun u : CDV => wCD G a0 u.1 u.2.1 u.2.2.1 u.2.2.2.1 u.2.2.2.2.1 u.2.2.2.2.2.1 u.2.2.2.2.2.2) Q)) args s 0 0 (va_A (wCD G a0 v0.1 v0.2.1 v0.2.2.1 v0.2.2.2.1 v0.2.2.2.2.1 v0.2.2.2.2.2.1 v0.2.2.2.2.2.2) s.heap.size)) (wCD G a0 w0.1 w0.2.1 w0.2.2.1 w0.2.2.2.1 w0.2.2.2.2.1 w0.2.2.2.2.2.1 w0.2.2.2.2.2.2) 565 [(0, .ref a0.1), (1, .int x1), (2, .int x2)] [.int t1, .ref a0.1] := by
    intro x1 x2 t1 w0 hw
    refine v_callV (pc2 := 568) (As := [.int t1]) (rest := []) S (c_X8_count l G a0 w0 t1 _ hw) mf_X8_count u_398 u_399 u_400 0 8 rfl rfl rfl rfl ⟨rfl, rfl⟩ ⟨Nat.le_of_ble_eq_true rfl, Nat.le_of_ble_eq_true rfl⟩ ⟨Nat.le_of_ble_eq_true rfl, Nat.le_of_ble_eq_true rfl⟩ (Nat.le_of_ble_eq_true rfl) dL_refusesAny_565 (frW _) rfl (pi (fun r62 u63 hw => ?_))
    refine v_to (wCD G a0 w0.1 w0.2.1 w0.2.2.1 w0.2.2.2.1 w0.2.2.2.2.1 w0.2.2.2.2.2.1 w0.2.2.2.2.2.2) 568 [(0, .ref a0.1), (1, .int x1), (2, .int x2)] _ [.int r62] rfl rfl rfl rfl ?_
    refine v_iconst (v := -1) (pc2 := 569) S dL_refusesAny_568 (by decide) rfl ?_
    refine v_icmp_ne (pc2 := 572) (tgt := 646) S dL_refusesAny_569 (by decide) rfl (fun c64 => ?_) (fun c64 => ?_)
    · have hw := hw.1 c64
      refine v_lv [(0, .ref a0.1)] [0] rfl ?_
      exact B646 w0 hw
    · have hw := hw.2 c64
      refine v_aload_n (pc2 := 573) S 0 dL_refusesAny_572 rfl rfl rfl ?_
      refine v_iload_n (pc2 := 574) S 2 dL_refusesAny_573 rfl rfl rfl ?_
      refine v_iconst (v := 0) (pc2 := 575) S dL_refusesAny_574 (by decide) rfl ?_
      refine v_callV (pc2 := 578) (As := [.int x2, .int (0 : Int32)]) (rest := []) S (c_X8_ifOpened l G a0 w0 x2 (0 : Int32) _ hw) mf_X8_ifOpened u_659 u_660 u_661 0 8 rfl rfl rfl rfl ⟨rfl, rfl⟩ ⟨Nat.le_of_ble_eq_true rfl, Nat.le_of_ble_eq_true rfl⟩ ⟨Nat.le_of_ble_eq_true rfl, Nat.le_of_ble_eq_true rfl⟩ (Nat.le_of_ble_eq_true rfl) dL_refusesAny_575 (frW _) rfl (pi (fun r65 u66 hw => ?_))
      refine v_to (wCD G a0 w0.1 w0.2.1 w0.2.2.1 w0.2.2.2.1 w0.2.2.2.2.1 w0.2.2.2.2.2.1 w0.2.2.2.2.2.2) 578 [(0, .ref a0.1), (1, .int x1), (2, .int x2)] _ [.int r65] rfl rfl rfl rfl ?_
      refine v_iconst (v := -1) (pc2 := 579) S dL_refusesAny_578 (by decide) rfl ?_
      refine v_icmp_ne (pc2 := 582) (tgt := 646) S dL_refusesAny_579 (by decide) rfl (fun c67 => ?_) (fun c67 => ?_)
      · have hw := hw.1 c67
        refine v_lv [(0, .ref a0.1)] [0] rfl ?_
        exact B646 w0 hw
      · have hw := hw.2 c67
        refine v_aload_n (pc2 := 583) S 0 dL_refusesAny_582 rfl rfl rfl ?_
        refine v_iconst (v := 0) (pc2 := 584) S dL_refusesAny_583 (by decide) rfl ?_
        refine v_iload_n (pc2 := 585) S 1 dL_refusesAny_584 rfl rfl rfl ?_
        refine v_iconst (v := 2) (pc2 := 586) S dL_refusesAny_585 (by decide) rfl ?_
        refine v_irem (pc2 := 587) S (by decide) dL_refusesAny_586 rfl ?_
        refine v_if_ne (pc2 := 590) (tgt := 594) S dL_refusesAny_587 (by decide) rfl (fun c68 => ?_) (fun c68 => ?_)
        · have hw := hw.1 c68
          refine v_iconst (v := 3) (pc2 := 595) S dL_refusesAny_594 (by decide) rfl ?_
          refine v_lv [(0, .ref a0.1), (1, .int x1)] [0, 1] rfl ?_
          exact B595 x1 (0 : Int32) (3 : Int32) w0 hw
        · have hw := hw.2 c68
          refine v_iconst (v := -1) (pc2 := 591) S dL_refusesAny_590 (by decide) rfl ?_
          refine v_goto (tgt := 595) S dL_refusesAny_591 (by decide) ?_
          refine v_lv [(0, .ref a0.1), (1, .int x1)] [0, 1] rfl ?_
          exact B595 x1 (0 : Int32) (-1 : Int32) w0 hw
  have B545 : ∀ (x1 : Int32) (x2 : Int32) (t1 : Int32) (t2 : Int32) (t3 : Int32) (w0 : CDV), wp_L_refusesAny_B545 x1 x2 t1 t2 t3 w0 Q → V p l e { frames := 16, cells := 0, slots := 0, locals := 375 } s m args below meth c G (va_A (wCD G a0 v0.1 v0.2.1 v0.2.2.1 v0.2.2.2.1 v0.2.2.2.2.1 v0.2.2.2.2.2.1 v0.2.2.2.2.2.2) s.heap.size) 8 0 0 (MQ below (EQ G (wCD G a0 v0.1 v0.2.1 v0.2.2.1 v0.2.2.2.1 v0.2.2.2.2.1 v0.2.2.2.2.2.1 v0.2.2.2.2.2.2) s.heap.size (PB (fun u : CDV => wCD G a0 u.1 u.2.1 u.2.2.1 u.2.2.2.1 u.2.2.2.2.1 u.2.2.2.2.2.1 u.2.2.2.2.2.2) Q)) args s 0 0 (va_A (wCD G a0 v0.1 v0.2.1 v0.2.2.1 v0.2.2.2.1 v0.2.2.2.2.1 v0.2.2.2.2.2.1 v0.2.2.2.2.2.2) s.heap.size)) (wCD G a0 w0.1 w0.2.1 w0.2.2.1 w0.2.2.2.1 w0.2.2.2.2.1 w0.2.2.2.2.2.1 w0.2.2.2.2.2.2) 545 [(0, .ref a0.1), (1, .int x1), (2, .int x2)] [.int t3, .int t2, .int t1, .ref a0.1] := by
    intro x1 x2 t1 t2 t3 w0 hw
    refine v_callV (pc2 := 548) (As := [.int t1, .int t2, .int t3]) (rest := []) S (c_X8_deeds l G a0 w0 t1 t2 t3 _ hw) mf_X8_deeds u_317 u_318 u_319 0 8 rfl rfl rfl rfl ⟨rfl, rfl⟩ ⟨Nat.le_of_ble_eq_true rfl, Nat.le_of_ble_eq_true rfl⟩ ⟨Nat.le_of_ble_eq_true rfl, Nat.le_of_ble_eq_true rfl⟩ (Nat.le_of_ble_eq_true rfl) dL_refusesAny_545 (frW _) rfl (pi (fun r58 u59 hw => ?_))
    refine v_to (wCD G a0 u59.1 u59.2.1 u59.2.2.1 u59.2.2.2.1 u59.2.2.2.2.1 u59.2.2.2.2.2.1 u59.2.2.2.2.2.2) 548 [(0, .ref a0.1), (1, .int x1), (2, .int x2)] _ [.int r58] rfl rfl rfl rfl ?_
    refine v_iconst (v := -1) (pc2 := 549) S dL_refusesAny_548 (by decide) rfl ?_
    refine v_icmp_ne (pc2 := 552) (tgt := 646) S dL_refusesAny_549 (by decide) rfl (fun c60 => ?_) (fun c60 => ?_)
    · have hw := hw.1 c60
      refine v_lv [(0, .ref a0.1)] [0] rfl ?_
      exact B646 u59 hw
    · have hw := hw.2 c60
      refine v_aload_n (pc2 := 553) S 0 dL_refusesAny_552 rfl rfl rfl ?_
      refine v_iload_n (pc2 := 554) S 1 dL_refusesAny_553 rfl rfl rfl ?_
      refine v_iconst (v := 2) (pc2 := 555) S dL_refusesAny_554 (by decide) rfl ?_
      refine v_irem (pc2 := 556) S (by decide) dL_refusesAny_555 rfl ?_
      refine v_if_ne (pc2 := 559) (tgt := 563) S dL_refusesAny_556 (by decide) rfl (fun c61 => ?_) (fun c61 => ?_)
      · have hw := hw.1 c61
        refine v_bipush (v := 15) (pc2 := 565) S dL_refusesAny_563 (by decide) rfl ?_
        exact B565 x1 x2 (15 : Int32) u59 hw
      · have hw := hw.2 c61
        refine v_iconst (v := -1) (pc2 := 560) S dL_refusesAny_559 (by decide) rfl ?_
        refine v_goto (tgt := 565) S dL_refusesAny_560 (by decide) ?_
        exact B565 x1 x2 (-1 : Int32) u59 hw
  have B491 : ∀ (x1 : Int32) (x2 : Int32) (x3 : Int32) (x4 : Int32) (x5 : Int32) (t1 : Int32) (w0 : CDV), wp_L_refusesAny_B491 x1 x2 x3 x4 x5 t1 w0 Q → V p l e { frames := 16, cells := 0, slots := 0, locals := 375 } s m args below meth c G (va_A (wCD G a0 v0.1 v0.2.1 v0.2.2.1 v0.2.2.2.1 v0.2.2.2.2.1 v0.2.2.2.2.2.1 v0.2.2.2.2.2.2) s.heap.size) 8 0 0 (MQ below (EQ G (wCD G a0 v0.1 v0.2.1 v0.2.2.1 v0.2.2.2.1 v0.2.2.2.2.1 v0.2.2.2.2.2.1 v0.2.2.2.2.2.2) s.heap.size (PB (fun u : CDV => wCD G a0 u.1 u.2.1 u.2.2.1 u.2.2.2.1 u.2.2.2.2.1 u.2.2.2.2.2.1 u.2.2.2.2.2.2) Q)) args s 0 0 (va_A (wCD G a0 v0.1 v0.2.1 v0.2.2.1 v0.2.2.2.1 v0.2.2.2.2.1 v0.2.2.2.2.2.1 v0.2.2.2.2.2.2) s.heap.size)) (wCD G a0 w0.1 w0.2.1 w0.2.2.1 w0.2.2.2.1 w0.2.2.2.2.1 w0.2.2.2.2.2.1 w0.2.2.2.2.2.2) 491 [(0, .ref a0.1), (1, .int x1), (2, .int x2), (3, .int x3), (4, .int x4), (5, .int x5)] [.int t1, .ref a0.1] := by
    intro x1 x2 x3 x4 x5 t1 w0 hw
    refine v_callV (pc2 := 494) (As := [.int t1]) (rest := []) S (c_X8_together l G a0 w0 t1 _ hw) mf_X8_together u_647 u_648 u_649 0 8 rfl rfl rfl rfl ⟨rfl, rfl⟩ ⟨Nat.le_of_ble_eq_true rfl, Nat.le_of_ble_eq_true rfl⟩ ⟨Nat.le_of_ble_eq_true rfl, Nat.le_of_ble_eq_true rfl⟩ (Nat.le_of_ble_eq_true rfl) dL_refusesAny_491 (frW _) rfl (pi (fun r45 u46 hw => ?_))
    refine v_to (wCD G a0 w0.1 w0.2.1 w0.2.2.1 w0.2.2.2.1 w0.2.2.2.2.1 w0.2.2.2.2.2.1 w0.2.2.2.2.2.2) 494 [(0, .ref a0.1), (1, .int x1), (2, .int x2), (3, .int x3), (4, .int x4), (5, .int x5)] _ [.int r45] rfl rfl rfl rfl ?_
    refine v_iconst (v := -1) (pc2 := 495) S dL_refusesAny_494 (by decide) rfl ?_
    refine v_icmp_ne (pc2 := 498) (tgt := 646) S dL_refusesAny_495 (by decide) rfl (fun c47 => ?_) (fun c47 => ?_)
    · have hw := hw.1 c47
      refine v_lv [(0, .ref a0.1)] [0] rfl ?_
      exact B646 w0 hw
    · have hw := hw.2 c47
      refine v_aload_n (pc2 := 499) S 0 dL_refusesAny_498 rfl rfl rfl ?_
      refine v_iload (pc2 := 501) S 5 dL_refusesAny_499 rfl rfl ?_
      refine v_callV (pc2 := 504) (As := [.int x5]) (rest := []) S (c_X8_can l G a0 w0 x5 _ hw) mf_X8_can u_295 u_296 u_297 0 8 rfl rfl rfl rfl ⟨rfl, rfl⟩ ⟨Nat.le_of_ble_eq_true rfl, Nat.le_of_ble_eq_true rfl⟩ ⟨Nat.le_of_ble_eq_true rfl, Nat.le_of_ble_eq_true rfl⟩ (Nat.le_of_ble_eq_true rfl) dL_refusesAny_501 (frW _) rfl (pi (fun r48 u49 hw => ?_))
      refine v_to (wCD G a0 w0.1 w0.2.1 w0.2.2.1 w0.2.2.2.1 w0.2.2.2.2.1 w0.2.2.2.2.2.1 w0.2.2.2.2.2.2) 504 [(0, .ref a0.1), (1, .int x1), (2, .int x2), (3, .int x3), (4, .int x4), (5, .int x5)] _ [.int r48] rfl rfl rfl rfl ?_
      refine v_iconst (v := -1) (pc2 := 505) S dL_refusesAny_504 (by decide) rfl ?_
      refine v_icmp_ne (pc2 := 508) (tgt := 646) S dL_refusesAny_505 (by decide) rfl (fun c50 => ?_) (fun c50 => ?_)
      · have hw := hw.1 c50
        refine v_lv [(0, .ref a0.1)] [0] rfl ?_
        exact B646 w0 hw
      · have hw := hw.2 c50
        refine v_aload_n (pc2 := 509) S 0 dL_refusesAny_508 rfl rfl rfl ?_
        refine v_iload_n (pc2 := 510) S 3 dL_refusesAny_509 rfl rfl rfl ?_
        refine v_iconst (v := 0) (pc2 := 511) S dL_refusesAny_510 (by decide) rfl ?_
        refine v_iconst (v := 0) (pc2 := 512) S dL_refusesAny_511 (by decide) rfl ?_
        refine v_callV (pc2 := 515) (As := [.int x3, .int (0 : Int32), .int (0 : Int32)]) (rest := []) S (c_X8_deeds l G a0 w0 x3 (0 : Int32) (0 : Int32) _ hw) mf_X8_deeds u_317 u_318 u_319 0 8 rfl rfl rfl rfl ⟨rfl, rfl⟩ ⟨Nat.le_of_ble_eq_true rfl, Nat.le_of_ble_eq_true rfl⟩ ⟨Nat.le_of_ble_eq_true rfl, Nat.le_of_ble_eq_true rfl⟩ (Nat.le_of_ble_eq_true rfl) dL_refusesAny_512 (frW _) rfl (pi (fun r51 u52 hw => ?_))
        refine v_to (wCD G a0 u52.1 u52.2.1 u52.2.2.1 u52.2.2.2.1 u52.2.2.2.2.1 u52.2.2.2.2.2.1 u52.2.2.2.2.2.2) 515 [(0, .ref a0.1), (1, .int x1), (2, .int x2), (3, .int x3), (4, .int x4), (5, .int x5)] _ [.int r51] rfl rfl rfl rfl ?_
        refine v_iconst (v := -1) (pc2 := 516) S dL_refusesAny_515 (by decide) rfl ?_
        refine v_icmp_ne (pc2 := 519) (tgt := 646) S dL_refusesAny_516 (by decide) rfl (fun c53 => ?_) (fun c53 => ?_)
        · have hw := hw.1 c53
          refine v_lv [(0, .ref a0.1)] [0] rfl ?_
          exact B646 u52 hw
        · have hw := hw.2 c53
          refine v_aload_n (pc2 := 520) S 0 dL_refusesAny_519 rfl rfl rfl ?_
          refine v_iconst (v := 0) (pc2 := 521) S dL_refusesAny_520 (by decide) rfl ?_
          refine v_iload (pc2 := 523) S 4 dL_refusesAny_521 rfl rfl ?_
          refine v_iconst (v := 0) (pc2 := 524) S dL_refusesAny_523 (by decide) rfl ?_
          refine v_callV (pc2 := 527) (As := [.int (0 : Int32), .int x4, .int (0 : Int32)]) (rest := []) S (c_X8_deeds l G a0 u52 (0 : Int32) x4 (0 : Int32) _ hw) mf_X8_deeds u_317 u_318 u_319 0 8 rfl rfl rfl rfl ⟨rfl, rfl⟩ ⟨Nat.le_of_ble_eq_true rfl, Nat.le_of_ble_eq_true rfl⟩ ⟨Nat.le_of_ble_eq_true rfl, Nat.le_of_ble_eq_true rfl⟩ (Nat.le_of_ble_eq_true rfl) dL_refusesAny_524 (frW _) rfl (pi (fun r54 u55 hw => ?_))
          refine v_to (wCD G a0 u55.1 u55.2.1 u55.2.2.1 u55.2.2.2.1 u55.2.2.2.2.1 u55.2.2.2.2.2.1 u55.2.2.2.2.2.2) 527 [(0, .ref a0.1), (1, .int x1), (2, .int x2), (3, .int x3), (4, .int x4), (5, .int x5)] _ [.int r54] rfl rfl rfl rfl ?_
          refine v_iconst (v := -1) (pc2 := 528) S dL_refusesAny_527 (by decide) rfl ?_
          refine v_icmp_ne (pc2 := 531) (tgt := 646) S dL_refusesAny_528 (by decide) rfl (fun c56 => ?_) (fun c56 => ?_)
          · have hw := hw.1 c56
            refine v_lv [(0, .ref a0.1)] [0] rfl ?_
            exact B646 u55 hw
          · have hw := hw.2 c56
            refine v_aload_n (pc2 := 532) S 0 dL_refusesAny_531 rfl rfl rfl ?_
            refine v_iconst (v := 0) (pc2 := 533) S dL_refusesAny_532 (by decide) rfl ?_
            refine v_iconst (v := 0) (pc2 := 534) S dL_refusesAny_533 (by decide) rfl ?_
            refine v_iload_n (pc2 := 535) S 1 dL_refusesAny_534 rfl rfl rfl ?_
            refine v_iconst (v := 2) (pc2 := 536) S dL_refusesAny_535 (by decide) rfl ?_
            refine v_irem (pc2 := 537) S (by decide) dL_refusesAny_536 rfl ?_
            refine v_if_ne (pc2 := 540) (tgt := 544) S dL_refusesAny_537 (by decide) rfl (fun c57 => ?_) (fun c57 => ?_)
            · have hw := hw.1 c57
              refine v_iconst (v := 2) (pc2 := 545) S dL_refusesAny_544 (by decide) rfl ?_
              refine v_lv [(0, .ref a0.1), (1, .int x1), (2, .int x2)] [0, 1, 2] rfl ?_
              exact B545 x1 x2 (0 : Int32) (0 : Int32) (2 : Int32) u55 hw
            · have hw := hw.2 c57
              refine v_iconst (v := -1) (pc2 := 541) S dL_refusesAny_540 (by decide) rfl ?_
              refine v_goto (tgt := 545) S dL_refusesAny_541 (by decide) ?_
              refine v_lv [(0, .ref a0.1), (1, .int x1), (2, .int x2)] [0, 1, 2] rfl ?_
              exact B545 x1 x2 (0 : Int32) (0 : Int32) (-1 : Int32) u55 hw
  have B463 : ∀ (x1 : Int32) (x2 : Int32) (x3 : Int32) (x4 : Int32) (x5 : Int32) (t1 : Int32) (t2 : Int32) (w0 : CDV), wp_L_refusesAny_B463 x1 x2 x3 x4 x5 t1 t2 w0 Q → V p l e { frames := 16, cells := 0, slots := 0, locals := 375 } s m args below meth c G (va_A (wCD G a0 v0.1 v0.2.1 v0.2.2.1 v0.2.2.2.1 v0.2.2.2.2.1 v0.2.2.2.2.2.1 v0.2.2.2.2.2.2) s.heap.size) 8 0 0 (MQ below (EQ G (wCD G a0 v0.1 v0.2.1 v0.2.2.1 v0.2.2.2.1 v0.2.2.2.2.1 v0.2.2.2.2.2.1 v0.2.2.2.2.2.2) s.heap.size (PB (fun u : CDV => wCD G a0 u.1 u.2.1 u.2.2.1 u.2.2.2.1 u.2.2.2.2.1 u.2.2.2.2.2.1 u.2.2.2.2.2.2) Q)) args s 0 0 (va_A (wCD G a0 v0.1 v0.2.1 v0.2.2.1 v0.2.2.2.1 v0.2.2.2.2.1 v0.2.2.2.2.2.1 v0.2.2.2.2.2.2) s.heap.size)) (wCD G a0 w0.1 w0.2.1 w0.2.2.1 w0.2.2.2.1 w0.2.2.2.2.1 w0.2.2.2.2.2.1 w0.2.2.2.2.2.2) 463 [(0, .ref a0.1), (1, .int x1), (2, .int x2), (3, .int x3), (4, .int x4), (5, .int x5)] [.int t2, .int t1, .ref a0.1] := by
    intro x1 x2 x3 x4 x5 t1 t2 w0 hw
    refine v_callV (pc2 := 466) (As := [.int t1, .int t2]) (rest := []) S (c_X8_guest l G a0 w0 t1 t2 _ hw) mf_X8_guest u_252 u_253 u_254 0 8 rfl rfl rfl rfl ⟨rfl, rfl⟩ ⟨Nat.le_of_ble_eq_true rfl, Nat.le_of_ble_eq_true rfl⟩ ⟨Nat.le_of_ble_eq_true rfl, Nat.le_of_ble_eq_true rfl⟩ (Nat.le_of_ble_eq_true rfl) dL_refusesAny_463 (frW _) rfl (pi (fun r38 u39 hw => ?_))
    refine v_to (wCD G a0 w0.1 w0.2.1 w0.2.2.1 w0.2.2.2.1 w0.2.2.2.2.1 w0.2.2.2.2.2.1 w0.2.2.2.2.2.2) 466 [(0, .ref a0.1), (1, .int x1), (2, .int x2), (3, .int x3), (4, .int x4), (5, .int x5)] _ [.int r38] rfl rfl rfl rfl ?_
    refine v_iconst (v := -1) (pc2 := 467) S dL_refusesAny_466 (by decide) rfl ?_
    refine v_icmp_ne (pc2 := 470) (tgt := 646) S dL_refusesAny_467 (by decide) rfl (fun c40 => ?_) (fun c40 => ?_)
    · have hw := hw.1 c40
      refine v_lv [(0, .ref a0.1)] [0] rfl ?_
      exact B646 w0 hw
    · have hw := hw.2 c40
      refine v_aload_n (pc2 := 471) S 0 dL_refusesAny_470 rfl rfl rfl ?_
      refine v_iload_n (pc2 := 472) S 2 dL_refusesAny_471 rfl rfl rfl ?_
      refine v_callV (pc2 := 475) (As := [.int x2]) (rest := []) S (c_X8_whyNot l G a0 w0 x2 _ hw) mf_X8_whyNot u_512 u_513 u_514 0 8 rfl rfl rfl rfl ⟨rfl, rfl⟩ ⟨Nat.le_of_ble_eq_true rfl, Nat.le_of_ble_eq_true rfl⟩ ⟨Nat.le_of_ble_eq_true rfl, Nat.le_of_ble_eq_true rfl⟩ (Nat.le_of_ble_eq_true rfl) dL_refusesAny_472 (frW _) rfl (pi (fun r41 u42 hw => ?_))
      refine v_to (wCD G a0 w0.1 w0.2.1 w0.2.2.1 w0.2.2.2.1 w0.2.2.2.2.1 w0.2.2.2.2.2.1 w0.2.2.2.2.2.2) 475 [(0, .ref a0.1), (1, .int x1), (2, .int x2), (3, .int x3), (4, .int x4), (5, .int x5)] _ [.int r41] rfl rfl rfl rfl ?_
      refine v_iconst (v := -1) (pc2 := 476) S dL_refusesAny_475 (by decide) rfl ?_
      refine v_icmp_ne (pc2 := 479) (tgt := 646) S dL_refusesAny_476 (by decide) rfl (fun c43 => ?_) (fun c43 => ?_)
      · have hw := hw.1 c43
        refine v_lv [(0, .ref a0.1)] [0] rfl ?_
        exact B646 w0 hw
      · have hw := hw.2 c43
        refine v_aload_n (pc2 := 480) S 0 dL_refusesAny_479 rfl rfl rfl ?_
        refine v_iload_n (pc2 := 481) S 1 dL_refusesAny_480 rfl rfl rfl ?_
        refine v_iconst (v := 2) (pc2 := 482) S dL_refusesAny_481 (by decide) rfl ?_
        refine v_irem (pc2 := 483) S (by decide) dL_refusesAny_482 rfl ?_
        refine v_if_ne (pc2 := 486) (tgt := 490) S dL_refusesAny_483 (by decide) rfl (fun c44 => ?_) (fun c44 => ?_)
        · have hw := hw.1 c44
          refine v_iconst (v := 2) (pc2 := 491) S dL_refusesAny_490 (by decide) rfl ?_
          exact B491 x1 x2 x3 x4 x5 (2 : Int32) w0 hw
        · have hw := hw.2 c44
          refine v_iconst (v := -1) (pc2 := 487) S dL_refusesAny_486 (by decide) rfl ?_
          refine v_goto (tgt := 491) S dL_refusesAny_487 (by decide) ?_
          exact B491 x1 x2 x3 x4 x5 (-1 : Int32) w0 hw
  have B433 : ∀ (x1 : Int32) (x2 : Int32) (x3 : Int32) (x4 : Int32) (x5 : Int32) (t1 : Int32) (t2 : Int32) (w0 : CDV), wp_L_refusesAny_B433 x1 x2 x3 x4 x5 t1 t2 w0 Q → V p l e { frames := 16, cells := 0, slots := 0, locals := 375 } s m args below meth c G (va_A (wCD G a0 v0.1 v0.2.1 v0.2.2.1 v0.2.2.2.1 v0.2.2.2.2.1 v0.2.2.2.2.2.1 v0.2.2.2.2.2.2) s.heap.size) 8 0 0 (MQ below (EQ G (wCD G a0 v0.1 v0.2.1 v0.2.2.1 v0.2.2.2.1 v0.2.2.2.2.1 v0.2.2.2.2.2.1 v0.2.2.2.2.2.2) s.heap.size (PB (fun u : CDV => wCD G a0 u.1 u.2.1 u.2.2.1 u.2.2.2.1 u.2.2.2.2.1 u.2.2.2.2.2.1 u.2.2.2.2.2.2) Q)) args s 0 0 (va_A (wCD G a0 v0.1 v0.2.1 v0.2.2.1 v0.2.2.2.1 v0.2.2.2.2.1 v0.2.2.2.2.2.1 v0.2.2.2.2.2.2) s.heap.size)) (wCD G a0 w0.1 w0.2.1 w0.2.2.1 w0.2.2.2.1 w0.2.2.2.2.1 w0.2.2.2.2.2.1 w0.2.2.2.2.2.2) 433 [(0, .ref a0.1), (1, .int x1), (2, .int x2), (3, .int x3), (4, .int x4), (5, .int x5)] [.int t2, .int t1, .ref a0.1] := by
    intro x1 x2 x3 x4 x5 t1 t2 w0 hw
    refine v_callV (pc2 := 436) (As := [.int t1, .int t2]) (rest := []) S (c_X8_hall l G a0 w0 t1 t2 _ hw) mf_X8_hall u_524 u_525 u_526 0 8 rfl rfl rfl rfl ⟨rfl, rfl⟩ ⟨Nat.le_of_ble_eq_true rfl, Nat.le_of_ble_eq_true rfl⟩ ⟨Nat.le_of_ble_eq_true rfl, Nat.le_of_ble_eq_true rfl⟩ (Nat.le_of_ble_eq_true rfl) dL_refusesAny_433 (frW _) rfl (pi (fun r31 u32 hw => ?_))
    refine v_to (wCD G a0 w0.1 w0.2.1 w0.2.2.1 w0.2.2.2.1 w0.2.2.2.2.1 w0.2.2.2.2.2.1 w0.2.2.2.2.2.2) 436 [(0, .ref a0.1), (1, .int x1), (2, .int x2), (3, .int x3), (4, .int x4), (5, .int x5)] _ [.int r31] rfl rfl rfl rfl ?_
    refine v_iconst (v := -1) (pc2 := 437) S dL_refusesAny_436 (by decide) rfl ?_
    refine v_icmp_ne (pc2 := 440) (tgt := 646) S dL_refusesAny_437 (by decide) rfl (fun c33 => ?_) (fun c33 => ?_)
    · have hw := hw.1 c33
      refine v_lv [(0, .ref a0.1)] [0] rfl ?_
      exact B646 w0 hw
    · have hw := hw.2 c33
      refine v_aload_n (pc2 := 441) S 0 dL_refusesAny_440 rfl rfl rfl ?_
      refine v_iload_n (pc2 := 442) S 3 dL_refusesAny_441 rfl rfl rfl ?_
      refine v_iconst (v := 0) (pc2 := 443) S dL_refusesAny_442 (by decide) rfl ?_
      refine v_callV (pc2 := 446) (As := [.int x3, .int (0 : Int32)]) (rest := []) S (c_X8_guest l G a0 w0 x3 (0 : Int32) _ hw) mf_X8_guest u_252 u_253 u_254 0 8 rfl rfl rfl rfl ⟨rfl, rfl⟩ ⟨Nat.le_of_ble_eq_true rfl, Nat.le_of_ble_eq_true rfl⟩ ⟨Nat.le_of_ble_eq_true rfl, Nat.le_of_ble_eq_true rfl⟩ (Nat.le_of_ble_eq_true rfl) dL_refusesAny_443 (frW _) rfl (pi (fun r34 u35 hw => ?_))
      refine v_to (wCD G a0 w0.1 w0.2.1 w0.2.2.1 w0.2.2.2.1 w0.2.2.2.2.1 w0.2.2.2.2.2.1 w0.2.2.2.2.2.2) 446 [(0, .ref a0.1), (1, .int x1), (2, .int x2), (3, .int x3), (4, .int x4), (5, .int x5)] _ [.int r34] rfl rfl rfl rfl ?_
      refine v_iconst (v := -1) (pc2 := 447) S dL_refusesAny_446 (by decide) rfl ?_
      refine v_icmp_ne (pc2 := 450) (tgt := 646) S dL_refusesAny_447 (by decide) rfl (fun c36 => ?_) (fun c36 => ?_)
      · have hw := hw.1 c36
        refine v_lv [(0, .ref a0.1)] [0] rfl ?_
        exact B646 w0 hw
      · have hw := hw.2 c36
        refine v_aload_n (pc2 := 451) S 0 dL_refusesAny_450 rfl rfl rfl ?_
        refine v_iconst (v := 0) (pc2 := 452) S dL_refusesAny_451 (by decide) rfl ?_
        refine v_iload_n (pc2 := 453) S 1 dL_refusesAny_452 rfl rfl rfl ?_
        refine v_iconst (v := 2) (pc2 := 454) S dL_refusesAny_453 (by decide) rfl ?_
        refine v_irem (pc2 := 455) S (by decide) dL_refusesAny_454 rfl ?_
        refine v_if_ne (pc2 := 458) (tgt := 462) S dL_refusesAny_455 (by decide) rfl (fun c37 => ?_) (fun c37 => ?_)
        · have hw := hw.1 c37
          refine v_iconst (v := 4) (pc2 := 463) S dL_refusesAny_462 (by decide) rfl ?_
          exact B463 x1 x2 x3 x4 x5 (0 : Int32) (4 : Int32) w0 hw
        · have hw := hw.2 c37
          refine v_iconst (v := -1) (pc2 := 459) S dL_refusesAny_458 (by decide) rfl ?_
          refine v_goto (tgt := 463) S dL_refusesAny_459 (by decide) ?_
          exact B463 x1 x2 x3 x4 x5 (0 : Int32) (-1 : Int32) w0 hw
  have B402 : ∀ (x1 : Int32) (x2 : Int32) (x3 : Int32) (x4 : Int32) (x5 : Int32) (t1 : Int32) (t2 : Int32) (w0 : CDV), wp_L_refusesAny_B402 x1 x2 x3 x4 x5 t1 t2 w0 Q → V p l e { frames := 16, cells := 0, slots := 0, locals := 375 } s m args below meth c G (va_A (wCD G a0 v0.1 v0.2.1 v0.2.2.1 v0.2.2.2.1 v0.2.2.2.2.1 v0.2.2.2.2.2.1 v0.2.2.2.2.2.2) s.heap.size) 8 0 0 (MQ below (EQ G (wCD G a0 v0.1 v0.2.1 v0.2.2.1 v0.2.2.2.1 v0.2.2.2.2.1 v0.2.2.2.2.2.1 v0.2.2.2.2.2.2) s.heap.size (PB (fun u : CDV => wCD G a0 u.1 u.2.1 u.2.2.1 u.2.2.2.1 u.2.2.2.2.1 u.2.2.2.2.2.1 u.2.2.2.2.2.2) Q)) args s 0 0 (va_A (wCD G a0 v0.1 v0.2.1 v0.2.2.1 v0.2.2.2.1 v0.2.2.2.2.1 v0.2.2.2.2.2.1 v0.2.2.2.2.2.2) s.heap.size)) (wCD G a0 w0.1 w0.2.1 w0.2.2.1 w0.2.2.2.1 w0.2.2.2.2.1 w0.2.2.2.2.2.1 w0.2.2.2.2.2.2) 402 [(0, .ref a0.1), (1, .int x1), (2, .int x2), (3, .int x3), (4, .int x4), (5, .int x5)] [.int t2, .int t1, .ref a0.1] := by
    intro x1 x2 x3 x4 x5 t1 t2 w0 hw
    refine v_callV (pc2 := 405) (As := [.int t1, .int t2]) (rest := []) S (c_X8_door l G a0 w0 t1 t2 _ hw) mf_X8_door u_484 u_485 u_486 0 8 rfl rfl rfl rfl ⟨rfl, rfl⟩ ⟨Nat.le_of_ble_eq_true rfl, Nat.le_of_ble_eq_true rfl⟩ ⟨Nat.le_of_ble_eq_true rfl, Nat.le_of_ble_eq_true rfl⟩ (Nat.le_of_ble_eq_true rfl) dL_refusesAny_402 (frW _) rfl (pi (fun r24 u25 hw => ?_))
    refine v_to (wCD G a0 w0.1 w0.2.1 w0.2.2.1 w0.2.2.2.1 w0.2.2.2.2.1 w0.2.2.2.2.2.1 w0.2.2.2.2.2.2) 405 [(0, .ref a0.1), (1, .int x1), (2, .int x2), (3, .int x3), (4, .int x4), (5, .int x5)] _ [.int r24] rfl rfl rfl rfl ?_
    refine v_iconst (v := -1) (pc2 := 406) S dL_refusesAny_405 (by decide) rfl ?_
    refine v_icmp_ne (pc2 := 409) (tgt := 646) S dL_refusesAny_406 (by decide) rfl (fun c26 => ?_) (fun c26 => ?_)
    · have hw := hw.1 c26
      refine v_lv [(0, .ref a0.1)] [0] rfl ?_
      exact B646 w0 hw
    · have hw := hw.2 c26
      refine v_aload_n (pc2 := 410) S 0 dL_refusesAny_409 rfl rfl rfl ?_
      refine v_iload (pc2 := 412) S 4 dL_refusesAny_410 rfl rfl ?_
      refine v_iconst (v := 0) (pc2 := 413) S dL_refusesAny_412 (by decide) rfl ?_
      refine v_callV (pc2 := 416) (As := [.int x4, .int (0 : Int32)]) (rest := []) S (c_X8_hall l G a0 w0 x4 (0 : Int32) _ hw) mf_X8_hall u_524 u_525 u_526 0 8 rfl rfl rfl rfl ⟨rfl, rfl⟩ ⟨Nat.le_of_ble_eq_true rfl, Nat.le_of_ble_eq_true rfl⟩ ⟨Nat.le_of_ble_eq_true rfl, Nat.le_of_ble_eq_true rfl⟩ (Nat.le_of_ble_eq_true rfl) dL_refusesAny_413 (frW _) rfl (pi (fun r27 u28 hw => ?_))
      refine v_to (wCD G a0 w0.1 w0.2.1 w0.2.2.1 w0.2.2.2.1 w0.2.2.2.2.1 w0.2.2.2.2.2.1 w0.2.2.2.2.2.2) 416 [(0, .ref a0.1), (1, .int x1), (2, .int x2), (3, .int x3), (4, .int x4), (5, .int x5)] _ [.int r27] rfl rfl rfl rfl ?_
      refine v_iconst (v := -1) (pc2 := 417) S dL_refusesAny_416 (by decide) rfl ?_
      refine v_icmp_ne (pc2 := 420) (tgt := 646) S dL_refusesAny_417 (by decide) rfl (fun c29 => ?_) (fun c29 => ?_)
      · have hw := hw.1 c29
        refine v_lv [(0, .ref a0.1)] [0] rfl ?_
        exact B646 w0 hw
      · have hw := hw.2 c29
        refine v_aload_n (pc2 := 421) S 0 dL_refusesAny_420 rfl rfl rfl ?_
        refine v_iconst (v := 0) (pc2 := 422) S dL_refusesAny_421 (by decide) rfl ?_
        refine v_iload_n (pc2 := 423) S 1 dL_refusesAny_422 rfl rfl rfl ?_
        refine v_iconst (v := 2) (pc2 := 424) S dL_refusesAny_423 (by decide) rfl ?_
        refine v_irem (pc2 := 425) S (by decide) dL_refusesAny_424 rfl ?_
        refine v_if_ne (pc2 := 428) (tgt := 432) S dL_refusesAny_425 (by decide) rfl (fun c30 => ?_) (fun c30 => ?_)
        · have hw := hw.1 c30
          refine v_iconst (v := 4) (pc2 := 433) S dL_refusesAny_432 (by decide) rfl ?_
          exact B433 x1 x2 x3 x4 x5 (0 : Int32) (4 : Int32) w0 hw
        · have hw := hw.2 c30
          refine v_iconst (v := -1) (pc2 := 429) S dL_refusesAny_428 (by decide) rfl ?_
          refine v_goto (tgt := 433) S dL_refusesAny_429 (by decide) ?_
          exact B433 x1 x2 x3 x4 x5 (0 : Int32) (-1 : Int32) w0 hw
  have B371 : ∀ (x1 : Int32) (x2 : Int32) (x3 : Int32) (x4 : Int32) (x5 : Int32) (t0 : Int32) (w0 : CDV), wp_L_refusesAny_B371 x1 x2 x3 x4 x5 t0 w0 Q → V p l e { frames := 16, cells := 0, slots := 0, locals := 375 } s m args below meth c G (va_A (wCD G a0 v0.1 v0.2.1 v0.2.2.1 v0.2.2.2.1 v0.2.2.2.2.1 v0.2.2.2.2.2.1 v0.2.2.2.2.2.2) s.heap.size) 8 0 0 (MQ below (EQ G (wCD G a0 v0.1 v0.2.1 v0.2.2.1 v0.2.2.2.1 v0.2.2.2.2.1 v0.2.2.2.2.2.1 v0.2.2.2.2.2.2) s.heap.size (PB (fun u : CDV => wCD G a0 u.1 u.2.1 u.2.2.1 u.2.2.2.1 u.2.2.2.2.1 u.2.2.2.2.2.1 u.2.2.2.2.2.2) Q)) args s 0 0 (va_A (wCD G a0 v0.1 v0.2.1 v0.2.2.1 v0.2.2.2.1 v0.2.2.2.2.1 v0.2.2.2.2.2.1 v0.2.2.2.2.2.2) s.heap.size)) (wCD G a0 w0.1 w0.2.1 w0.2.2.1 w0.2.2.2.1 w0.2.2.2.2.1 w0.2.2.2.2.2.1 w0.2.2.2.2.2.2) 371 [(0, .ref a0.1), (1, .int x1), (2, .int x2), (3, .int x3), (4, .int x4), (5, .int x5)] [.int t0] := by
    intro x1 x2 x3 x4 x5 t0 w0 hw
    refine v_istore (lv2 := [(0, .ref a0.1), (1, .int x1), (2, .int x2), (3, .int x3), (4, .int x4), (5, .int x5), (7, .int t0)]) (pc2 := 373) S dL_refusesAny_371 (by decide) [1, 2, 3, 4, 5, 6, 0] rfl rfl ?_
    refine v_iload (pc2 := 375) S 6 dL_refusesAny_373 rfl rfl ?_
    refine v_if_eq (pc2 := 378) (tgt := 646) S dL_refusesAny_375 (by decide) rfl (fun c9 => ?_) (fun c9 => ?_)
    · have hw := hw.1 c9
      refine v_lv [(0, .ref a0.1)] [0] rfl ?_
      exact B646 w0 hw
    · have hw := hw.2 c9
      refine v_aload_n (pc2 := 379) S 0 dL_refusesAny_378 rfl rfl rfl ?_
      refine v_iload_n (pc2 := 380) S 2 dL_refusesAny_379 rfl rfl rfl ?_
      refine v_iconst (v := 0) (pc2 := 381) S dL_refusesAny_380 (by decide) rfl ?_
      refine v_callV (pc2 := 384) (As := [.int x2, .int (0 : Int32)]) (rest := []) S (c_X8_door l G a0 w0 x2 (0 : Int32) _ hw) mf_X8_door u_484 u_485 u_486 0 8 rfl rfl rfl rfl ⟨rfl, rfl⟩ ⟨Nat.le_of_ble_eq_true rfl, Nat.le_of_ble_eq_true rfl⟩ ⟨Nat.le_of_ble_eq_true rfl, Nat.le_of_ble_eq_true rfl⟩ (Nat.le_of_ble_eq_true rfl) dL_refusesAny_381 (frW _) rfl (pi (fun r20 u21 hw => ?_))
      refine v_to (wCD G a0 w0.1 w0.2.1 w0.2.2.1 w0.2.2.2.1 w0.2.2.2.2.1 w0.2.2.2.2.2.1 w0.2.2.2.2.2.2) 384 [(0, .ref a0.1), (1, .int x1), (2, .int x2), (3, .int x3), (4, .int x4), (5, .int x5), (7, .int t0)] _ [.int r20] rfl rfl rfl rfl ?_
      refine v_iconst (v := -1) (pc2 := 385) S dL_refusesAny_384 (by decide) rfl ?_
      refine v_icmp_ne (pc2 := 388) (tgt := 646) S dL_refusesAny_385 (by decide) rfl (fun c22 => ?_) (fun c22 => ?_)
      · have hw := hw.1 c22
        refine v_lv [(0, .ref a0.1)] [0] rfl ?_
        exact B646 w0 hw
      · have hw := hw.2 c22
        refine v_aload_n (pc2 := 389) S 0 dL_refusesAny_388 rfl rfl rfl ?_
        refine v_iconst (v := 0) (pc2 := 390) S dL_refusesAny_389 (by decide) rfl ?_
        refine v_iload_n (pc2 := 391) S 1 dL_refusesAny_390 rfl rfl rfl ?_
        refine v_iconst (v := 2) (pc2 := 392) S dL_refusesAny_391 (by decide) rfl ?_
        refine v_irem (pc2 := 393) S (by decide) dL_refusesAny_392 rfl ?_
        refine v_if_ne (pc2 := 396) (tgt := 400) S dL_refusesAny_393 (by decide) rfl (fun c23 => ?_) (fun c23 => ?_)
        · have hw := hw.1 c23
          refine v_bipush (v := 10) (pc2 := 402) S dL_refusesAny_400 (by decide) rfl ?_
          refine v_lv [(0, .ref a0.1), (1, .int x1), (2, .int x2), (3, .int x3), (4, .int x4), (5, .int x5)] [0, 1, 2, 3, 4, 5] rfl ?_
          exact B402 x1 x2 x3 x4 x5 (0 : Int32) (10 : Int32) w0 hw
        · have hw := hw.2 c23
          refine v_iconst (v := -1) (pc2 := 397) S dL_refusesAny_396 (by decide) rfl ?_
          refine v_goto (tgt := 402) S dL_refusesAny_397 (by decide) ?_
          refine v_lv [(0, .ref a0.1), (1, .int x1), (2, .int x2), (3, .int x3), (4, .int x4), (5, .int x5)] [0, 1, 2, 3, 4, 5] rfl ?_
          exact B402 x1 x2 x3 x4 x5 (0 : Int32) (-1 : Int32) w0 hw
  have B370 : ∀ (x1 : Int32) (x2 : Int32) (x3 : Int32) (x4 : Int32) (x5 : Int32) (w0 : CDV), wp_L_refusesAny_B370 x1 x2 x3 x4 x5 w0 Q → V p l e { frames := 16, cells := 0, slots := 0, locals := 375 } s m args below meth c G (va_A (wCD G a0 v0.1 v0.2.1 v0.2.2.1 v0.2.2.2.1 v0.2.2.2.2.1 v0.2.2.2.2.2.1 v0.2.2.2.2.2.2) s.heap.size) 8 0 0 (MQ below (EQ G (wCD G a0 v0.1 v0.2.1 v0.2.2.1 v0.2.2.2.1 v0.2.2.2.2.1 v0.2.2.2.2.2.1 v0.2.2.2.2.2.2) s.heap.size (PB (fun u : CDV => wCD G a0 u.1 u.2.1 u.2.2.1 u.2.2.2.1 u.2.2.2.2.1 u.2.2.2.2.2.1 u.2.2.2.2.2.2) Q)) args s 0 0 (va_A (wCD G a0 v0.1 v0.2.1 v0.2.2.1 v0.2.2.2.1 v0.2.2.2.2.1 v0.2.2.2.2.2.1 v0.2.2.2.2.2.2) s.heap.size)) (wCD G a0 w0.1 w0.2.1 w0.2.2.1 w0.2.2.2.1 w0.2.2.2.2.1 w0.2.2.2.2.2.1 w0.2.2.2.2.2.2) 370 [(0, .ref a0.1), (1, .int x1), (2, .int x2), (3, .int x3), (4, .int x4), (5, .int x5)] [] := by
    intro x1 x2 x3 x4 x5 w0 hw
    refine v_iconst (v := 0) (pc2 := 371) S dL_refusesAny_370 (by decide) rfl ?_
    exact B371 x1 x2 x3 x4 x5 (0 : Int32) w0 hw
  have B299 : ∀ (x1 : Int32) (x2 : Int32) (x3 : Int32) (x4 : Int32) (x5 : Int32) (t1 : Int32) (w0 : CDV), wp_L_refusesAny_B299 x1 x2 x3 x4 x5 t1 w0 Q → V p l e { frames := 16, cells := 0, slots := 0, locals := 375 } s m args below meth c G (va_A (wCD G a0 v0.1 v0.2.1 v0.2.2.1 v0.2.2.2.1 v0.2.2.2.2.1 v0.2.2.2.2.2.1 v0.2.2.2.2.2.2) s.heap.size) 8 0 0 (MQ below (EQ G (wCD G a0 v0.1 v0.2.1 v0.2.2.1 v0.2.2.2.1 v0.2.2.2.2.1 v0.2.2.2.2.2.1 v0.2.2.2.2.2.2) s.heap.size (PB (fun u : CDV => wCD G a0 u.1 u.2.1 u.2.2.1 u.2.2.2.1 u.2.2.2.2.1 u.2.2.2.2.2.1 u.2.2.2.2.2.2) Q)) args s 0 0 (va_A (wCD G a0 v0.1 v0.2.1 v0.2.2.1 v0.2.2.2.1 v0.2.2.2.2.1 v0.2.2.2.2.2.1 v0.2.2.2.2.2.2) s.heap.size)) (wCD G a0 w0.1 w0.2.1 w0.2.2.1 w0.2.2.2.1 w0.2.2.2.2.1 w0.2.2.2.2.2.1 w0.2.2.2.2.2.2) 299 [(0, .ref a0.1), (1, .int x1), (2, .int x2), (3, .int x3), (4, .int x4), (5, .int x5)] [.int t1, .ref a0.1] := by
    intro x1 x2 x3 x4 x5 t1 w0 hw
    refine v_callV (pc2 := 302) (As := [.int t1]) (rest := []) S (c_X8_draft l G a0 w0 t1 _ hw) mf_X8_draft u_614 u_615 u_616 0 8 rfl rfl rfl rfl ⟨rfl, rfl⟩ ⟨Nat.le_of_ble_eq_true rfl, Nat.le_of_ble_eq_true rfl⟩ ⟨Nat.le_of_ble_eq_true rfl, Nat.le_of_ble_eq_true rfl⟩ (Nat.le_of_ble_eq_true rfl) dL_refusesAny_299 (frW _) rfl (pi (fun r118 u119 hw => ?_))
    refine v_to (wCD G a0 u119.1 u119.2.1 u119.2.2.1 u119.2.2.2.1 u119.2.2.2.2.1 u119.2.2.2.2.2.1 u119.2.2.2.2.2.2) 302 [(0, .ref a0.1), (1, .int x1), (2, .int x2), (3, .int x3), (4, .int x4), (5, .int x5)] _ [.int r118] rfl rfl rfl rfl ?_
    refine v_iconst (v := -1) (pc2 := 303) S dL_refusesAny_302 (by decide) rfl ?_
    refine v_icmp_ne (pc2 := 306) (tgt := 370) S dL_refusesAny_303 (by decide) rfl (fun c120 => ?_) (fun c120 => ?_)
    · have hw := hw.1 c120
      exact B370 x1 x2 x3 x4 x5 u119 hw
    · have hw := hw.2 c120
      refine v_aload_n (pc2 := 307) S 0 dL_refusesAny_306 rfl rfl rfl ?_
      refine v_iload_n (pc2 := 308) S 3 dL_refusesAny_307 rfl rfl rfl ?_
      refine v_iconst (v := 0) (pc2 := 309) S dL_refusesAny_308 (by decide) rfl ?_
      refine v_callV (pc2 := 312) (As := [.int x3, .int (0 : Int32)]) (rest := []) S (c_X8_guestOpens l G a0 u119 x3 (0 : Int32) _ hw) mf_X8_guestOpens u_618 u_619 u_620 0 8 rfl rfl rfl rfl ⟨rfl, rfl⟩ ⟨Nat.le_of_ble_eq_true rfl, Nat.le_of_ble_eq_true rfl⟩ ⟨Nat.le_of_ble_eq_true rfl, Nat.le_of_ble_eq_true rfl⟩ (Nat.le_of_ble_eq_true rfl) dL_refusesAny_309 (frW _) rfl (pi (fun r121 u122 hw => ?_))
      refine v_to (wCD G a0 u122.1 u122.2.1 u122.2.2.1 u122.2.2.2.1 u122.2.2.2.2.1 u122.2.2.2.2.2.1 u122.2.2.2.2.2.2) 312 [(0, .ref a0.1), (1, .int x1), (2, .int x2), (3, .int x3), (4, .int x4), (5, .int x5)] _ [.int r121] rfl rfl rfl rfl ?_
      refine v_iconst (v := -1) (pc2 := 313) S dL_refusesAny_312 (by decide) rfl ?_
      refine v_icmp_ne (pc2 := 316) (tgt := 370) S dL_refusesAny_313 (by decide) rfl (fun c123 => ?_) (fun c123 => ?_)
      · have hw := hw.1 c123
        exact B370 x1 x2 x3 x4 x5 u122 hw
      · have hw := hw.2 c123
        refine v_aload_n (pc2 := 317) S 0 dL_refusesAny_316 rfl rfl rfl ?_
        refine v_iconst (v := 0) (pc2 := 318) S dL_refusesAny_317 (by decide) rfl ?_
        refine v_iload_n (pc2 := 319) S 2 dL_refusesAny_318 rfl rfl rfl ?_
        refine v_callV (pc2 := 322) (As := [.int (0 : Int32), .int x2]) (rest := []) S (c_X8_guestOpens l G a0 u122 (0 : Int32) x2 _ hw) mf_X8_guestOpens u_618 u_619 u_620 0 8 rfl rfl rfl rfl ⟨rfl, rfl⟩ ⟨Nat.le_of_ble_eq_true rfl, Nat.le_of_ble_eq_true rfl⟩ ⟨Nat.le_of_ble_eq_true rfl, Nat.le_of_ble_eq_true rfl⟩ (Nat.le_of_ble_eq_true rfl) dL_refusesAny_319 (frW _) rfl (pi (fun r124 u125 hw => ?_))
        refine v_to (wCD G a0 u125.1 u125.2.1 u125.2.2.1 u125.2.2.2.1 u125.2.2.2.2.1 u125.2.2.2.2.2.1 u125.2.2.2.2.2.2) 322 [(0, .ref a0.1), (1, .int x1), (2, .int x2), (3, .int x3), (4, .int x4), (5, .int x5)] _ [.int r124] rfl rfl rfl rfl ?_
        refine v_iconst (v := -1) (pc2 := 323) S dL_refusesAny_322 (by decide) rfl ?_
        refine v_icmp_ne (pc2 := 326) (tgt := 370) S dL_refusesAny_323 (by decide) rfl (fun c126 => ?_) (fun c126 => ?_)
        · have hw := hw.1 c126
          exact B370 x1 x2 x3 x4 x5 u125 hw
        · have hw := hw.2 c126
          refine v_aload_n (pc2 := 327) S 0 dL_refusesAny_326 rfl rfl rfl ?_
          refine v_iload_n (pc2 := 328) S 3 dL_refusesAny_327 rfl rfl rfl ?_
          refine v_iconst (v := 0) (pc2 := 329) S dL_refusesAny_328 (by decide) rfl ?_
          refine v_callV (pc2 := 332) (As := [.int x3, .int (0 : Int32)]) (rest := []) S (c_X8_guestShuts l G a0 u125 x3 (0 : Int32) _ hw) mf_X8_guestShuts u_626 u_627 u_628 0 8 rfl rfl rfl rfl ⟨rfl, rfl⟩ ⟨Nat.le_of_ble_eq_true rfl, Nat.le_of_ble_eq_true rfl⟩ ⟨Nat.le_of_ble_eq_true rfl, Nat.le_of_ble_eq_true rfl⟩ (Nat.le_of_ble_eq_true rfl) dL_refusesAny_329 (frW _) rfl (pi (fun r127 u128 hw => ?_))
          refine v_to (wCD G a0 u128.1 u128.2.1 u128.2.2.1 u128.2.2.2.1 u128.2.2.2.2.1 u128.2.2.2.2.2.1 u128.2.2.2.2.2.2) 332 [(0, .ref a0.1), (1, .int x1), (2, .int x2), (3, .int x3), (4, .int x4), (5, .int x5)] _ [.int r127] rfl rfl rfl rfl ?_
          refine v_iconst (v := -1) (pc2 := 333) S dL_refusesAny_332 (by decide) rfl ?_
          refine v_icmp_ne (pc2 := 336) (tgt := 370) S dL_refusesAny_333 (by decide) rfl (fun c129 => ?_) (fun c129 => ?_)
          · have hw := hw.1 c129
            exact B370 x1 x2 x3 x4 x5 u128 hw
          · have hw := hw.2 c129
            refine v_aload_n (pc2 := 337) S 0 dL_refusesAny_336 rfl rfl rfl ?_
            refine v_iconst (v := 0) (pc2 := 338) S dL_refusesAny_337 (by decide) rfl ?_
            refine v_iload_n (pc2 := 339) S 2 dL_refusesAny_338 rfl rfl rfl ?_
            refine v_callV (pc2 := 342) (As := [.int (0 : Int32), .int x2]) (rest := []) S (c_X8_guestShuts l G a0 u128 (0 : Int32) x2 _ hw) mf_X8_guestShuts u_626 u_627 u_628 0 8 rfl rfl rfl rfl ⟨rfl, rfl⟩ ⟨Nat.le_of_ble_eq_true rfl, Nat.le_of_ble_eq_true rfl⟩ ⟨Nat.le_of_ble_eq_true rfl, Nat.le_of_ble_eq_true rfl⟩ (Nat.le_of_ble_eq_true rfl) dL_refusesAny_339 (frW _) rfl (pi (fun r130 u131 hw => ?_))
            refine v_to (wCD G a0 u131.1 u131.2.1 u131.2.2.1 u131.2.2.2.1 u131.2.2.2.2.1 u131.2.2.2.2.2.1 u131.2.2.2.2.2.2) 342 [(0, .ref a0.1), (1, .int x1), (2, .int x2), (3, .int x3), (4, .int x4), (5, .int x5)] _ [.int r130] rfl rfl rfl rfl ?_
            refine v_iconst (v := -1) (pc2 := 343) S dL_refusesAny_342 (by decide) rfl ?_
            refine v_icmp_ne (pc2 := 346) (tgt := 370) S dL_refusesAny_343 (by decide) rfl (fun c132 => ?_) (fun c132 => ?_)
            · have hw := hw.1 c132
              exact B370 x1 x2 x3 x4 x5 u131 hw
            · have hw := hw.2 c132
              refine v_aload_n (pc2 := 347) S 0 dL_refusesAny_346 rfl rfl rfl ?_
              refine v_iload_n (pc2 := 348) S 3 dL_refusesAny_347 rfl rfl rfl ?_
              refine v_iconst (v := 0) (pc2 := 349) S dL_refusesAny_348 (by decide) rfl ?_
              refine v_callV (pc2 := 352) (As := [.int x3, .int (0 : Int32)]) (rest := []) S (c_X8_walk l G a0 u131 x3 (0 : Int32) _ hw) mf_X8_walk u_638 u_639 u_640 0 8 rfl rfl rfl rfl ⟨rfl, rfl⟩ ⟨Nat.le_of_ble_eq_true rfl, Nat.le_of_ble_eq_true rfl⟩ ⟨Nat.le_of_ble_eq_true rfl, Nat.le_of_ble_eq_true rfl⟩ (Nat.le_of_ble_eq_true rfl) dL_refusesAny_349 (frW _) rfl (pi (fun r133 u134 hw => ?_))
              refine v_to (wCD G a0 u134.1 u134.2.1 u134.2.2.1 u134.2.2.2.1 u134.2.2.2.2.1 u134.2.2.2.2.2.1 u134.2.2.2.2.2.2) 352 [(0, .ref a0.1), (1, .int x1), (2, .int x2), (3, .int x3), (4, .int x4), (5, .int x5)] _ [.int r133] rfl rfl rfl rfl ?_
              refine v_iconst (v := -1) (pc2 := 353) S dL_refusesAny_352 (by decide) rfl ?_
              refine v_icmp_ne (pc2 := 356) (tgt := 370) S dL_refusesAny_353 (by decide) rfl (fun c135 => ?_) (fun c135 => ?_)
              · have hw := hw.1 c135
                exact B370 x1 x2 x3 x4 x5 u134 hw
              · have hw := hw.2 c135
                refine v_aload_n (pc2 := 357) S 0 dL_refusesAny_356 rfl rfl rfl ?_
                refine v_iconst (v := 0) (pc2 := 358) S dL_refusesAny_357 (by decide) rfl ?_
                refine v_iload_n (pc2 := 359) S 2 dL_refusesAny_358 rfl rfl rfl ?_
                refine v_callV (pc2 := 362) (As := [.int (0 : Int32), .int x2]) (rest := []) S (c_X8_walk l G a0 u134 (0 : Int32) x2 _ hw) mf_X8_walk u_638 u_639 u_640 0 8 rfl rfl rfl rfl ⟨rfl, rfl⟩ ⟨Nat.le_of_ble_eq_true rfl, Nat.le_of_ble_eq_true rfl⟩ ⟨Nat.le_of_ble_eq_true rfl, Nat.le_of_ble_eq_true rfl⟩ (Nat.le_of_ble_eq_true rfl) dL_refusesAny_359 (frW _) rfl (pi (fun r136 u137 hw => ?_))
                refine v_to (wCD G a0 u137.1 u137.2.1 u137.2.2.1 u137.2.2.2.1 u137.2.2.2.2.1 u137.2.2.2.2.2.1 u137.2.2.2.2.2.2) 362 [(0, .ref a0.1), (1, .int x1), (2, .int x2), (3, .int x3), (4, .int x4), (5, .int x5)] _ [.int r136] rfl rfl rfl rfl ?_
                refine v_iconst (v := -1) (pc2 := 363) S dL_refusesAny_362 (by decide) rfl ?_
                refine v_icmp_ne (pc2 := 366) (tgt := 370) S dL_refusesAny_363 (by decide) rfl (fun c138 => ?_) (fun c138 => ?_)
                · have hw := hw.1 c138
                  exact B370 x1 x2 x3 x4 x5 u137 hw
                · have hw := hw.2 c138
                  refine v_iconst (v := 1) (pc2 := 367) S dL_refusesAny_366 (by decide) rfl ?_
                  refine v_goto (tgt := 371) S dL_refusesAny_367 (by decide) ?_
                  exact B371 x1 x2 x3 x4 x5 (1 : Int32) u137 hw
  have B265 : ∀ (x1 : Int32) (x2 : Int32) (x3 : Int32) (x4 : Int32) (x5 : Int32) (w0 : CDV), wp_L_refusesAny_B265 x1 x2 x3 x4 x5 w0 Q → V p l e { frames := 16, cells := 0, slots := 0, locals := 375 } s m args below meth c G (va_A (wCD G a0 v0.1 v0.2.1 v0.2.2.1 v0.2.2.2.1 v0.2.2.2.2.1 v0.2.2.2.2.2.1 v0.2.2.2.2.2.2) s.heap.size) 8 0 0 (MQ below (EQ G (wCD G a0 v0.1 v0.2.1 v0.2.2.1 v0.2.2.2.1 v0.2.2.2.2.1 v0.2.2.2.2.2.1 v0.2.2.2.2.2.2) s.heap.size (PB (fun u : CDV => wCD G a0 u.1 u.2.1 u.2.2.1 u.2.2.2.1 u.2.2.2.2.1 u.2.2.2.2.2.1 u.2.2.2.2.2.2) Q)) args s 0 0 (va_A (wCD G a0 v0.1 v0.2.1 v0.2.2.1 v0.2.2.2.1 v0.2.2.2.2.1 v0.2.2.2.2.2.1 v0.2.2.2.2.2.2) s.heap.size)) (wCD G a0 w0.1 w0.2.1 w0.2.2.1 w0.2.2.2.1 w0.2.2.2.2.1 w0.2.2.2.2.2.1 w0.2.2.2.2.2.2) 265 [(0, .ref a0.1), (1, .int x1), (2, .int x2), (3, .int x3), (4, .int x4), (5, .int x5)] [] := by
    intro x1 x2 x3 x4 x5 w0 hw
    refine v_aload_n (pc2 := 266) S 0 dL_refusesAny_265 rfl rfl rfl ?_
    refine v_iload_n (pc2 := 267) S 3 dL_refusesAny_266 rfl rfl rfl ?_
    refine v_iconst (v := 0) (pc2 := 268) S dL_refusesAny_267 (by decide) rfl ?_
    refine v_callV (pc2 := 271) (As := [.int x3, .int (0 : Int32)]) (rest := []) S (c_X8_keys l G a0 w0 x3 (0 : Int32) _ hw) mf_X8_keys u_610 u_611 u_612 0 8 rfl rfl rfl rfl ⟨rfl, rfl⟩ ⟨Nat.le_of_ble_eq_true rfl, Nat.le_of_ble_eq_true rfl⟩ ⟨Nat.le_of_ble_eq_true rfl, Nat.le_of_ble_eq_true rfl⟩ (Nat.le_of_ble_eq_true rfl) dL_refusesAny_268 (frW _) rfl (pi (fun r111 u112 hw => ?_))
    refine v_to (wCD G a0 u112.1 u112.2.1 u112.2.2.1 u112.2.2.2.1 u112.2.2.2.2.1 u112.2.2.2.2.2.1 u112.2.2.2.2.2.2) 271 [(0, .ref a0.1), (1, .int x1), (2, .int x2), (3, .int x3), (4, .int x4), (5, .int x5)] _ [.int r111] rfl rfl rfl rfl ?_
    refine v_iconst (v := -1) (pc2 := 272) S dL_refusesAny_271 (by decide) rfl ?_
    refine v_icmp_ne (pc2 := 275) (tgt := 370) S dL_refusesAny_272 (by decide) rfl (fun c113 => ?_) (fun c113 => ?_)
    · have hw := hw.1 c113
      exact B370 x1 x2 x3 x4 x5 u112 hw
    · have hw := hw.2 c113
      refine v_aload_n (pc2 := 276) S 0 dL_refusesAny_275 rfl rfl rfl ?_
      refine v_iconst (v := 0) (pc2 := 277) S dL_refusesAny_276 (by decide) rfl ?_
      refine v_iload (pc2 := 279) S 5 dL_refusesAny_277 rfl rfl ?_
      refine v_callV (pc2 := 282) (As := [.int (0 : Int32), .int x5]) (rest := []) S (c_X8_keys l G a0 u112 (0 : Int32) x5 _ hw) mf_X8_keys u_610 u_611 u_612 0 8 rfl rfl rfl rfl ⟨rfl, rfl⟩ ⟨Nat.le_of_ble_eq_true rfl, Nat.le_of_ble_eq_true rfl⟩ ⟨Nat.le_of_ble_eq_true rfl, Nat.le_of_ble_eq_true rfl⟩ (Nat.le_of_ble_eq_true rfl) dL_refusesAny_279 (frW _) rfl (pi (fun r114 u115 hw => ?_))
      refine v_to (wCD G a0 u115.1 u115.2.1 u115.2.2.1 u115.2.2.2.1 u115.2.2.2.2.1 u115.2.2.2.2.2.1 u115.2.2.2.2.2.2) 282 [(0, .ref a0.1), (1, .int x1), (2, .int x2), (3, .int x3), (4, .int x4), (5, .int x5)] _ [.int r114] rfl rfl rfl rfl ?_
      refine v_iconst (v := -1) (pc2 := 283) S dL_refusesAny_282 (by decide) rfl ?_
      refine v_icmp_ne (pc2 := 286) (tgt := 370) S dL_refusesAny_283 (by decide) rfl (fun c116 => ?_) (fun c116 => ?_)
      · have hw := hw.1 c116
        exact B370 x1 x2 x3 x4 x5 u115 hw
      · have hw := hw.2 c116
        refine v_aload_n (pc2 := 287) S 0 dL_refusesAny_286 rfl rfl rfl ?_
        refine v_iload_n (pc2 := 288) S 1 dL_refusesAny_287 rfl rfl rfl ?_
        refine v_iconst (v := 2) (pc2 := 289) S dL_refusesAny_288 (by decide) rfl ?_
        refine v_irem (pc2 := 290) S (by decide) dL_refusesAny_289 rfl ?_
        refine v_if_ne (pc2 := 293) (tgt := 297) S dL_refusesAny_290 (by decide) rfl (fun c117 => ?_) (fun c117 => ?_)
        · have hw := hw.1 c117
          refine v_bipush (v := 11) (pc2 := 299) S dL_refusesAny_297 (by decide) rfl ?_
          exact B299 x1 x2 x3 x4 x5 (11 : Int32) u115 hw
        · have hw := hw.2 c117
          refine v_iconst (v := 0) (pc2 := 294) S dL_refusesAny_293 (by decide) rfl ?_
          refine v_goto (tgt := 299) S dL_refusesAny_294 (by decide) ?_
          exact B299 x1 x2 x3 x4 x5 (0 : Int32) u115 hw
  have B193 : ∀ (x1 : Int32) (x2 : Int32) (x3 : Int32) (x4 : Int32) (x5 : Int32) (x6 : Int32) (w0 : CDV), wp_L_refusesAny_B193 x1 x2 x3 x4 x5 x6 w0 Q → V p l e { frames := 16, cells := 0, slots := 0, locals := 375 } s m args below meth c G (va_A (wCD G a0 v0.1 v0.2.1 v0.2.2.1 v0.2.2.2.1 v0.2.2.2.2.1 v0.2.2.2.2.2.1 v0.2.2.2.2.2.2) s.heap.size) 8 0 0 (MQ below (EQ G (wCD G a0 v0.1 v0.2.1 v0.2.2.1 v0.2.2.2.1 v0.2.2.2.2.1 v0.2.2.2.2.2.1 v0.2.2.2.2.2.2) s.heap.size (PB (fun u : CDV => wCD G a0 u.1 u.2.1 u.2.2.1 u.2.2.2.1 u.2.2.2.2.1 u.2.2.2.2.2.1 u.2.2.2.2.2.2) Q)) args s 0 0 (va_A (wCD G a0 v0.1 v0.2.1 v0.2.2.1 v0.2.2.2.1 v0.2.2.2.2.1 v0.2.2.2.2.2.1 v0.2.2.2.2.2.2) s.heap.size)) (wCD G a0 w0.1 w0.2.1 w0.2.2.1 w0.2.2.2.1 w0.2.2.2.2.1 w0.2.2.2.2.2.1 w0.2.2.2.2.2.2) 193 [(0, .ref a0.1), (1, .int x1), (2, .int x2), (3, .int x3), (4, .int x4), (5, .int x5), (6, .int x6)] [] := by
    intro x1 x2 x3 x4 x5 x6 w0 hw
    refine v_aload_n (pc2 := 194) S 0 dL_refusesAny_193 rfl rfl rfl ?_
    refine v_iload_n (pc2 := 195) S 2 dL_refusesAny_194 rfl rfl rfl ?_
    refine v_iconst (v := 0) (pc2 := 196) S dL_refusesAny_195 (by decide) rfl ?_
    refine v_iconst (v := 1) (pc2 := 197) S dL_refusesAny_196 (by decide) rfl ?_
    refine v_callV (pc2 := 200) (As := [.int x2, .int (0 : Int32), .int (1 : Int32)]) (rest := []) S (c_X8_join l G a0 w0 x2 (0 : Int32) (1 : Int32) _ hw) mf_X8_join u_605 u_606 u_607 0 8 rfl rfl rfl rfl ⟨rfl, rfl⟩ ⟨Nat.le_of_ble_eq_true rfl, Nat.le_of_ble_eq_true rfl⟩ ⟨Nat.le_of_ble_eq_true rfl, Nat.le_of_ble_eq_true rfl⟩ (Nat.le_of_ble_eq_true rfl) dL_refusesAny_197 (frW _) rfl (pi (fun r96 u97 hw => ?_))
    refine v_to (wCD G a0 u97.1 u97.2.1 u97.2.2.1 u97.2.2.2.1 u97.2.2.2.2.1 u97.2.2.2.2.2.1 u97.2.2.2.2.2.2) 200 [(0, .ref a0.1), (1, .int x1), (2, .int x2), (3, .int x3), (4, .int x4), (5, .int x5), (6, .int x6)] _ [.int r96] rfl rfl rfl rfl ?_
    refine v_iconst (v := -1) (pc2 := 201) S dL_refusesAny_200 (by decide) rfl ?_
    refine v_icmp_ne (pc2 := 204) (tgt := 370) S dL_refusesAny_201 (by decide) rfl (fun c98 => ?_) (fun c98 => ?_)
    · have hw := hw.1 c98
      refine v_lv [(0, .ref a0.1), (1, .int x1), (2, .int x2), (3, .int x3), (4, .int x4), (5, .int x5)] [0, 1, 2, 3, 4, 5] rfl ?_
      exact B370 x1 x2 x3 x4 x5 u97 hw
    · have hw := hw.2 c98
      refine v_aload_n (pc2 := 205) S 0 dL_refusesAny_204 rfl rfl rfl ?_
      refine v_iload (pc2 := 207) S 6 dL_refusesAny_205 rfl rfl ?_
      refine v_iload (pc2 := 209) S 4 dL_refusesAny_207 rfl rfl ?_
      refine v_iconst (v := 0) (pc2 := 210) S dL_refusesAny_209 (by decide) rfl ?_
      refine v_callV (pc2 := 213) (As := [.int x6, .int x4, .int (0 : Int32)]) (rest := []) S (c_X8_join l G a0 u97 x6 x4 (0 : Int32) _ hw) mf_X8_join u_605 u_606 u_607 0 8 rfl rfl rfl rfl ⟨rfl, rfl⟩ ⟨Nat.le_of_ble_eq_true rfl, Nat.le_of_ble_eq_true rfl⟩ ⟨Nat.le_of_ble_eq_true rfl, Nat.le_of_ble_eq_true rfl⟩ (Nat.le_of_ble_eq_true rfl) dL_refusesAny_210 (frW _) rfl (pi (fun r99 u100 hw => ?_))
      refine v_to (wCD G a0 u100.1 u100.2.1 u100.2.2.1 u100.2.2.2.1 u100.2.2.2.2.1 u100.2.2.2.2.2.1 u100.2.2.2.2.2.2) 213 [(0, .ref a0.1), (1, .int x1), (2, .int x2), (3, .int x3), (4, .int x4), (5, .int x5), (6, .int x6)] _ [.int r99] rfl rfl rfl rfl ?_
      refine v_iconst (v := -1) (pc2 := 214) S dL_refusesAny_213 (by decide) rfl ?_
      refine v_icmp_ne (pc2 := 217) (tgt := 370) S dL_refusesAny_214 (by decide) rfl (fun c101 => ?_) (fun c101 => ?_)
      · have hw := hw.1 c101
        refine v_lv [(0, .ref a0.1), (1, .int x1), (2, .int x2), (3, .int x3), (4, .int x4), (5, .int x5)] [0, 1, 2, 3, 4, 5] rfl ?_
        exact B370 x1 x2 x3 x4 x5 u100 hw
      · have hw := hw.2 c101
        refine v_aload_n (pc2 := 218) S 0 dL_refusesAny_217 rfl rfl rfl ?_
        refine v_iload (pc2 := 220) S 6 dL_refusesAny_218 rfl rfl ?_
        refine v_iconst (v := 0) (pc2 := 221) S dL_refusesAny_220 (by decide) rfl ?_
        refine v_iload (pc2 := 223) S 4 dL_refusesAny_221 rfl rfl ?_
        refine v_callV (pc2 := 226) (As := [.int x6, .int (0 : Int32), .int x4]) (rest := []) S (c_X8_join l G a0 u100 x6 (0 : Int32) x4 _ hw) mf_X8_join u_605 u_606 u_607 0 8 rfl rfl rfl rfl ⟨rfl, rfl⟩ ⟨Nat.le_of_ble_eq_true rfl, Nat.le_of_ble_eq_true rfl⟩ ⟨Nat.le_of_ble_eq_true rfl, Nat.le_of_ble_eq_true rfl⟩ (Nat.le_of_ble_eq_true rfl) dL_refusesAny_223 (frW _) rfl (pi (fun r102 u103 hw => ?_))
        refine v_to (wCD G a0 u103.1 u103.2.1 u103.2.2.1 u103.2.2.2.1 u103.2.2.2.2.1 u103.2.2.2.2.2.1 u103.2.2.2.2.2.2) 226 [(0, .ref a0.1), (1, .int x1), (2, .int x2), (3, .int x3), (4, .int x4), (5, .int x5), (6, .int x6)] _ [.int r102] rfl rfl rfl rfl ?_
        refine v_iconst (v := -1) (pc2 := 227) S dL_refusesAny_226 (by decide) rfl ?_
        refine v_icmp_ne (pc2 := 230) (tgt := 370) S dL_refusesAny_227 (by decide) rfl (fun c104 => ?_) (fun c104 => ?_)
        · have hw := hw.1 c104
          refine v_lv [(0, .ref a0.1), (1, .int x1), (2, .int x2), (3, .int x3), (4, .int x4), (5, .int x5)] [0, 1, 2, 3, 4, 5] rfl ?_
          exact B370 x1 x2 x3 x4 x5 u103 hw
        · have hw := hw.2 c104
          refine v_aload_n (pc2 := 231) S 0 dL_refusesAny_230 rfl rfl rfl ?_
          refine v_iload (pc2 := 233) S 6 dL_refusesAny_231 rfl rfl ?_
          refine v_iconst (v := 3) (pc2 := 234) S dL_refusesAny_233 (by decide) rfl ?_
          refine v_iconst (v := 3) (pc2 := 235) S dL_refusesAny_234 (by decide) rfl ?_
          refine v_callV (pc2 := 238) (As := [.int x6, .int (3 : Int32), .int (3 : Int32)]) (rest := []) S (c_X8_join l G a0 u103 x6 (3 : Int32) (3 : Int32) _ hw) mf_X8_join u_605 u_606 u_607 0 8 rfl rfl rfl rfl ⟨rfl, rfl⟩ ⟨Nat.le_of_ble_eq_true rfl, Nat.le_of_ble_eq_true rfl⟩ ⟨Nat.le_of_ble_eq_true rfl, Nat.le_of_ble_eq_true rfl⟩ (Nat.le_of_ble_eq_true rfl) dL_refusesAny_235 (frW _) rfl (pi (fun r105 u106 hw => ?_))
          refine v_to (wCD G a0 u106.1 u106.2.1 u106.2.2.1 u106.2.2.2.1 u106.2.2.2.2.1 u106.2.2.2.2.2.1 u106.2.2.2.2.2.2) 238 [(0, .ref a0.1), (1, .int x1), (2, .int x2), (3, .int x3), (4, .int x4), (5, .int x5), (6, .int x6)] _ [.int r105] rfl rfl rfl rfl ?_
          refine v_iconst (v := -1) (pc2 := 239) S dL_refusesAny_238 (by decide) rfl ?_
          refine v_icmp_ne (pc2 := 242) (tgt := 370) S dL_refusesAny_239 (by decide) rfl (fun c107 => ?_) (fun c107 => ?_)
          · have hw := hw.1 c107
            refine v_lv [(0, .ref a0.1), (1, .int x1), (2, .int x2), (3, .int x3), (4, .int x4), (5, .int x5)] [0, 1, 2, 3, 4, 5] rfl ?_
            exact B370 x1 x2 x3 x4 x5 u106 hw
          · have hw := hw.2 c107
            refine v_aload_n (pc2 := 243) S 0 dL_refusesAny_242 rfl rfl rfl ?_
            refine v_iload (pc2 := 245) S 6 dL_refusesAny_243 rfl rfl ?_
            refine v_iconst (v := 0) (pc2 := 246) S dL_refusesAny_245 (by decide) rfl ?_
            refine v_callV (pc2 := 249) (As := [.int x6, .int (0 : Int32)]) (rest := []) S (c_X8_door l G a0 u106 x6 (0 : Int32) _ hw) mf_X8_door u_484 u_485 u_486 0 8 rfl rfl rfl rfl ⟨rfl, rfl⟩ ⟨Nat.le_of_ble_eq_true rfl, Nat.le_of_ble_eq_true rfl⟩ ⟨Nat.le_of_ble_eq_true rfl, Nat.le_of_ble_eq_true rfl⟩ (Nat.le_of_ble_eq_true rfl) dL_refusesAny_246 (frW _) rfl (pi (fun r108 u109 hw => ?_))
            refine v_to (wCD G a0 u106.1 u106.2.1 u106.2.2.1 u106.2.2.2.1 u106.2.2.2.2.1 u106.2.2.2.2.2.1 u106.2.2.2.2.2.2) 249 [(0, .ref a0.1), (1, .int x1), (2, .int x2), (3, .int x3), (4, .int x4), (5, .int x5), (6, .int x6)] _ [.int r108] rfl rfl rfl rfl ?_
            refine v_if_eq (pc2 := 252) (tgt := 265) S dL_refusesAny_249 (by decide) rfl (fun c110 => ?_) (fun c110 => ?_)
            · have hw := hw.1 c110
              refine v_lv [(0, .ref a0.1), (1, .int x1), (2, .int x2), (3, .int x3), (4, .int x4), (5, .int x5)] [0, 1, 2, 3, 4, 5] rfl ?_
              exact B265 x1 x2 x3 x4 x5 u106 hw
            · have hw := hw.2 c110
              refine v_aload_n (pc2 := 253) S 0 dL_refusesAny_252 rfl rfl rfl ?_
              refine v_iload (pc2 := 255) S 6 dL_refusesAny_253 rfl rfl ?_
              refine v_iconst (v := 0) (pc2 := 256) S dL_refusesAny_255 (by decide) rfl ?_
              refine v_iconst (v := 1) (pc2 := 257) S dL_refusesAny_256 (by decide) rfl ?_
              refine v_callV (pc2 := 260) (As := [.int x6, .int (0 : Int32), .int (1 : Int32)]) (rest := []) S (c_X8_join l G a0 u106 x6 (0 : Int32) (1 : Int32) _ hw) mf_X8_join u_605 u_606 u_607 0 8 rfl rfl rfl rfl ⟨rfl, rfl⟩ ⟨Nat.le_of_ble_eq_true rfl, Nat.le_of_ble_eq_true rfl⟩ ⟨Nat.le_of_ble_eq_true rfl, Nat.le_of_ble_eq_true rfl⟩ (Nat.le_of_ble_eq_true rfl) dL_refusesAny_257 (frW _) rfl (pi (fun r139 u140 hw => ?_))
              refine v_to (wCD G a0 u140.1 u140.2.1 u140.2.2.1 u140.2.2.2.1 u140.2.2.2.2.1 u140.2.2.2.2.2.1 u140.2.2.2.2.2.2) 260 [(0, .ref a0.1), (1, .int x1), (2, .int x2), (3, .int x3), (4, .int x4), (5, .int x5), (6, .int x6)] _ [.int r139] rfl rfl rfl rfl ?_
              refine v_bipush (v := -2) (pc2 := 262) S dL_refusesAny_260 (by decide) rfl ?_
              refine v_icmp_ne (pc2 := 265) (tgt := 370) S dL_refusesAny_262 (by decide) rfl (fun c141 => ?_) (fun c141 => ?_)
              · have hw := hw.1 c141
                refine v_lv [(0, .ref a0.1), (1, .int x1), (2, .int x2), (3, .int x3), (4, .int x4), (5, .int x5)] [0, 1, 2, 3, 4, 5] rfl ?_
                exact B370 x1 x2 x3 x4 x5 u140 hw
              · have hw := hw.2 c141
                refine v_lv [(0, .ref a0.1), (1, .int x1), (2, .int x2), (3, .int x3), (4, .int x4), (5, .int x5)] [0, 1, 2, 3, 4, 5] rfl ?_
                exact B265 x1 x2 x3 x4 x5 u140 hw
  have B145 : ∀ (x1 : Int32) (x2 : Int32) (x3 : Int32) (x4 : Int32) (x5 : Int32) (x6 : Int32) (t1 : Int32) (t2 : Int32) (t3 : Int32) (w0 : CDV), wp_L_refusesAny_B145 x1 x2 x3 x4 x5 x6 t1 t2 t3 w0 Q → V p l e { frames := 16, cells := 0, slots := 0, locals := 375 } s m args below meth c G (va_A (wCD G a0 v0.1 v0.2.1 v0.2.2.1 v0.2.2.2.1 v0.2.2.2.2.1 v0.2.2.2.2.2.1 v0.2.2.2.2.2.2) s.heap.size) 8 0 0 (MQ below (EQ G (wCD G a0 v0.1 v0.2.1 v0.2.2.1 v0.2.2.2.1 v0.2.2.2.2.1 v0.2.2.2.2.2.1 v0.2.2.2.2.2.2) s.heap.size (PB (fun u : CDV => wCD G a0 u.1 u.2.1 u.2.2.1 u.2.2.2.1 u.2.2.2.2.1 u.2.2.2.2.2.1 u.2.2.2.2.2.2) Q)) args s 0 0 (va_A (wCD G a0 v0.1 v0.2.1 v0.2.2.1 v0.2.2.2.1 v0.2.2.2.2.1 v0.2.2.2.2.2.1 v0.2.2.2.2.2.2) s.heap.size)) (wCD G a0 w0.1 w0.2.1 w0.2.2.1 w0.2.2.2.1 w0.2.2.2.2.1 w0.2.2.2.2.2.1 w0.2.2.2.2.2.2) 145 [(0, .ref a0.1), (1, .int x1), (2, .int x2), (3, .int x3), (4, .int x4), (5, .int x5), (6, .int x6)] [.int t3, .int t2, .int t1, .ref a0.1] := by
    intro x1 x2 x3 x4 x5 x6 t1 t2 t3 w0 hw
    refine v_callV (pc2 := 148) (As := [.int t1, .int t2, .int t3]) (rest := []) S (c_X8_cord l G a0 w0 t1 t2 t3 _ hw) mf_X8_cord u_593 u_594 u_595 0 8 rfl rfl rfl rfl ⟨rfl, rfl⟩ ⟨Nat.le_of_ble_eq_true rfl, Nat.le_of_ble_eq_true rfl⟩ ⟨Nat.le_of_ble_eq_true rfl, Nat.le_of_ble_eq_true rfl⟩ (Nat.le_of_ble_eq_true rfl) dL_refusesAny_145 (frW _) rfl (pi (fun r87 u88 hw => ?_))
    refine v_to (wCD G a0 u88.1 u88.2.1 u88.2.2.1 u88.2.2.2.1 u88.2.2.2.2.1 u88.2.2.2.2.2.1 u88.2.2.2.2.2.2) 148 [(0, .ref a0.1), (1, .int x1), (2, .int x2), (3, .int x3), (4, .int x4), (5, .int x5), (6, .int x6)] _ [.int r87] rfl rfl rfl rfl ?_
    refine v_iconst (v := -1) (pc2 := 149) S dL_refusesAny_148 (by decide) rfl ?_
    refine v_icmp_ne (pc2 := 152) (tgt := 370) S dL_refusesAny_149 (by decide) rfl (fun c89 => ?_) (fun c89 => ?_)
    · have hw := hw.1 c89
      refine v_lv [(0, .ref a0.1), (1, .int x1), (2, .int x2), (3, .int x3), (4, .int x4), (5, .int x5)] [0, 1, 2, 3, 4, 5] rfl ?_
      exact B370 x1 x2 x3 x4 x5 u88 hw
    · have hw := hw.2 c89
      refine v_aload_n (pc2 := 153) S 0 dL_refusesAny_152 rfl rfl rfl ?_
      refine v_iload (pc2 := 155) S 6 dL_refusesAny_153 rfl rfl ?_
      refine v_iconst (v := 1) (pc2 := 156) S dL_refusesAny_155 (by decide) rfl ?_
      refine v_iload (pc2 := 158) S 6 dL_refusesAny_156 rfl rfl ?_
      refine v_callV (pc2 := 161) (As := [.int x6, .int (1 : Int32), .int x6]) (rest := []) S (c_X8_cord l G a0 u88 x6 (1 : Int32) x6 _ hw) mf_X8_cord u_593 u_594 u_595 0 8 rfl rfl rfl rfl ⟨rfl, rfl⟩ ⟨Nat.le_of_ble_eq_true rfl, Nat.le_of_ble_eq_true rfl⟩ ⟨Nat.le_of_ble_eq_true rfl, Nat.le_of_ble_eq_true rfl⟩ (Nat.le_of_ble_eq_true rfl) dL_refusesAny_158 (frW _) rfl (pi (fun r90 u91 hw => ?_))
      refine v_to (wCD G a0 u91.1 u91.2.1 u91.2.2.1 u91.2.2.2.1 u91.2.2.2.2.1 u91.2.2.2.2.2.1 u91.2.2.2.2.2.2) 161 [(0, .ref a0.1), (1, .int x1), (2, .int x2), (3, .int x3), (4, .int x4), (5, .int x5), (6, .int x6)] _ [.int r90] rfl rfl rfl rfl ?_
      refine v_iconst (v := -1) (pc2 := 162) S dL_refusesAny_161 (by decide) rfl ?_
      refine v_icmp_ne (pc2 := 165) (tgt := 370) S dL_refusesAny_162 (by decide) rfl (fun c92 => ?_) (fun c92 => ?_)
      · have hw := hw.1 c92
        refine v_lv [(0, .ref a0.1), (1, .int x1), (2, .int x2), (3, .int x3), (4, .int x4), (5, .int x5)] [0, 1, 2, 3, 4, 5] rfl ?_
        exact B370 x1 x2 x3 x4 x5 u91 hw
      · have hw := hw.2 c92
        refine v_aload_n (pc2 := 166) S 0 dL_refusesAny_165 rfl rfl rfl ?_
        refine v_iload (pc2 := 168) S 6 dL_refusesAny_166 rfl rfl ?_
        refine v_iconst (v := 4) (pc2 := 169) S dL_refusesAny_168 (by decide) rfl ?_
        refine v_callV (pc2 := 172) (As := [.int x6, .int (4 : Int32)]) (rest := []) S (c_X8_door l G a0 u91 x6 (4 : Int32) _ hw) mf_X8_door u_484 u_485 u_486 0 8 rfl rfl rfl rfl ⟨rfl, rfl⟩ ⟨Nat.le_of_ble_eq_true rfl, Nat.le_of_ble_eq_true rfl⟩ ⟨Nat.le_of_ble_eq_true rfl, Nat.le_of_ble_eq_true rfl⟩ (Nat.le_of_ble_eq_true rfl) dL_refusesAny_169 (frW _) rfl (pi (fun r93 u94 hw => ?_))
        refine v_to (wCD G a0 u91.1 u91.2.1 u91.2.2.1 u91.2.2.2.1 u91.2.2.2.2.1 u91.2.2.2.2.2.1 u91.2.2.2.2.2.2) 172 [(0, .ref a0.1), (1, .int x1), (2, .int x2), (3, .int x3), (4, .int x4), (5, .int x5), (6, .int x6)] _ [.int r93] rfl rfl rfl rfl ?_
        refine v_if_lt (pc2 := 175) (tgt := 193) S dL_refusesAny_172 (by decide) rfl (fun c95 => ?_) (fun c95 => ?_)
        · have hw := hw.1 c95
          exact B193 x1 x2 x3 x4 x5 x6 u91 hw
        · have hw := hw.2 c95
          refine v_aload_n (pc2 := 176) S 0 dL_refusesAny_175 rfl rfl rfl ?_
          refine v_iload (pc2 := 178) S 6 dL_refusesAny_176 rfl rfl ?_
          refine v_iconst (v := 0) (pc2 := 179) S dL_refusesAny_178 (by decide) rfl ?_
          refine v_aload_n (pc2 := 180) S 0 dL_refusesAny_179 rfl rfl rfl ?_
          refine v_iload (pc2 := 182) S 6 dL_refusesAny_180 rfl rfl ?_
          refine v_iconst (v := 4) (pc2 := 183) S dL_refusesAny_182 (by decide) rfl ?_
          refine v_callV (pc2 := 186) (As := [.int x6, .int (4 : Int32)]) (rest := [.int (0 : Int32), .int x6, .ref a0.1]) S (c_X8_door l G a0 u91 x6 (4 : Int32) _ hw) mf_X8_door u_484 u_485 u_486 0 8 rfl rfl rfl rfl ⟨rfl, rfl⟩ ⟨Nat.le_of_ble_eq_true rfl, Nat.le_of_ble_eq_true rfl⟩ ⟨Nat.le_of_ble_eq_true rfl, Nat.le_of_ble_eq_true rfl⟩ (Nat.le_of_ble_eq_true rfl) dL_refusesAny_183 (frW _) rfl (pi (fun r142 u143 hw => ?_))
          refine v_to (wCD G a0 u91.1 u91.2.1 u91.2.2.1 u91.2.2.2.1 u91.2.2.2.2.1 u91.2.2.2.2.2.1 u91.2.2.2.2.2.2) 186 [(0, .ref a0.1), (1, .int x1), (2, .int x2), (3, .int x3), (4, .int x4), (5, .int x5), (6, .int x6)] _ [.int r142, .int (0 : Int32), .int x6, .ref a0.1] rfl rfl rfl rfl ?_
          refine v_callV (pc2 := 189) (As := [.int x6, .int (0 : Int32), .int r142]) (rest := []) S (c_X8_cord l G a0 u91 x6 (0 : Int32) r142 _ hw) mf_X8_cord u_593 u_594 u_595 0 8 rfl rfl rfl rfl ⟨rfl, rfl⟩ ⟨Nat.le_of_ble_eq_true rfl, Nat.le_of_ble_eq_true rfl⟩ ⟨Nat.le_of_ble_eq_true rfl, Nat.le_of_ble_eq_true rfl⟩ (Nat.le_of_ble_eq_true rfl) dL_refusesAny_186 (frW _) rfl (pi (fun r144 u145 hw => ?_))
          refine v_to (wCD G a0 u145.1 u145.2.1 u145.2.2.1 u145.2.2.2.1 u145.2.2.2.2.1 u145.2.2.2.2.2.1 u145.2.2.2.2.2.2) 189 [(0, .ref a0.1), (1, .int x1), (2, .int x2), (3, .int x3), (4, .int x4), (5, .int x5), (6, .int x6)] _ [.int r144] rfl rfl rfl rfl ?_
          refine v_iconst (v := -1) (pc2 := 190) S dL_refusesAny_189 (by decide) rfl ?_
          refine v_icmp_ne (pc2 := 193) (tgt := 370) S dL_refusesAny_190 (by decide) rfl (fun c146 => ?_) (fun c146 => ?_)
          · have hw := hw.1 c146
            refine v_lv [(0, .ref a0.1), (1, .int x1), (2, .int x2), (3, .int x3), (4, .int x4), (5, .int x5)] [0, 1, 2, 3, 4, 5] rfl ?_
            exact B370 x1 x2 x3 x4 x5 u145 hw
          · have hw := hw.2 c146
            exact B193 x1 x2 x3 x4 x5 x6 u145 hw
  have B92 : ∀ (x1 : Int32) (x2 : Int32) (x3 : Int32) (x4 : Int32) (t0 : Int32) (w0 : CDV), wp_L_refusesAny_B92 x1 x2 x3 x4 t0 w0 Q → V p l e { frames := 16, cells := 0, slots := 0, locals := 375 } s m args below meth c G (va_A (wCD G a0 v0.1 v0.2.1 v0.2.2.1 v0.2.2.2.1 v0.2.2.2.2.1 v0.2.2.2.2.2.1 v0.2.2.2.2.2.2) s.heap.size) 8 0 0 (MQ below (EQ G (wCD G a0 v0.1 v0.2.1 v0.2.2.1 v0.2.2.2.1 v0.2.2.2.2.1 v0.2.2.2.2.2.1 v0.2.2.2.2.2.2) s.heap.size (PB (fun u : CDV => wCD G a0 u.1 u.2.1 u.2.2.1 u.2.2.2.1 u.2.2.2.2.1 u.2.2.2.2.2.1 u.2.2.2.2.2.2) Q)) args s 0 0 (va_A (wCD G a0 v0.1 v0.2.1 v0.2.2.1 v0.2.2.2.1 v0.2.2.2.2.1 v0.2.2.2.2.2.1 v0.2.2.2.2.2.2) s.heap.size)) (wCD G a0 w0.1 w0.2.1 w0.2.2.1 w0.2.2.2.1 w0.2.2.2.2.1 w0.2.2.2.2.2.1 w0.2.2.2.2.2.2) 92 [(0, .ref a0.1), (1, .int x1), (2, .int x2), (3, .int x3), (4, .int x4)] [.int t0] := by
    intro x1 x2 x3 x4 t0 w0 hw
    refine v_istore (lv2 := [(0, .ref a0.1), (1, .int x1), (2, .int x2), (3, .int x3), (4, .int x4), (5, .int t0)]) (pc2 := 94) S dL_refusesAny_92 (by decide) [1, 2, 3, 4, 5, 0] rfl rfl ?_
    refine v_iload_n (pc2 := 95) S 1 dL_refusesAny_94 rfl rfl rfl ?_
    refine v_bipush (v := 10) (pc2 := 97) S dL_refusesAny_95 (by decide) rfl ?_
    refine v_irem (pc2 := 98) S (by decide) dL_refusesAny_97 rfl ?_
    refine v_nm (fun z5 ez5 => ?_)
    have hw := hw z5 ez5
    refine v_istore (lv2 := [(0, .ref a0.1), (1, .int x1), (2, .int x2), (3, .int x3), (4, .int x4), (5, .int t0), (6, .int z5)]) (pc2 := 100) S dL_refusesAny_98 (by decide) [1, 2, 3, 4, 5, 6, 0] rfl rfl ?_
    refine v_aload_n (pc2 := 101) S 0 dL_refusesAny_100 rfl rfl rfl ?_
    refine v_iload_n (pc2 := 102) S 2 dL_refusesAny_101 rfl rfl rfl ?_
    refine v_callV (pc2 := 105) (As := [.int x2]) (rest := []) S (c_X8_open l G a0 w0 x2 _ hw) mf_X8_open u_543 u_544 u_545 0 8 rfl rfl rfl rfl ⟨rfl, rfl⟩ ⟨Nat.le_of_ble_eq_true rfl, Nat.le_of_ble_eq_true rfl⟩ ⟨Nat.le_of_ble_eq_true rfl, Nat.le_of_ble_eq_true rfl⟩ (Nat.le_of_ble_eq_true rfl) dL_refusesAny_102 (frW _) rfl (pi (fun r6 u7 hw => ?_))
    refine v_to (wCD G a0 u7.1 u7.2.1 u7.2.2.1 u7.2.2.2.1 u7.2.2.2.2.1 u7.2.2.2.2.2.1 u7.2.2.2.2.2.2) 105 [(0, .ref a0.1), (1, .int x1), (2, .int x2), (3, .int x3), (4, .int x4), (5, .int t0), (6, .int z5)] _ [.int r6] rfl rfl rfl rfl ?_
    refine v_iconst (v := -1) (pc2 := 106) S dL_refusesAny_105 (by decide) rfl ?_
    refine v_icmp_ne (pc2 := 109) (tgt := 370) S dL_refusesAny_106 (by decide) rfl (fun c8 => ?_) (fun c8 => ?_)
    · have hw := hw.1 c8
      refine v_lv [(0, .ref a0.1), (1, .int x1), (2, .int x2), (3, .int x3), (4, .int x4), (5, .int t0)] [0, 1, 2, 3, 4, 5] rfl ?_
      exact B370 x1 x2 x3 x4 t0 u7 hw
    · have hw := hw.2 c8
      refine v_aload_n (pc2 := 110) S 0 dL_refusesAny_109 rfl rfl rfl ?_
      refine v_iload_n (pc2 := 111) S 2 dL_refusesAny_110 rfl rfl rfl ?_
      refine v_callV (pc2 := 114) (As := [.int x2]) (rest := []) S (c_X8_shut l G a0 u7 x2 _ hw) mf_X8_shut u_572 u_573 u_574 0 8 rfl rfl rfl rfl ⟨rfl, rfl⟩ ⟨Nat.le_of_ble_eq_true rfl, Nat.le_of_ble_eq_true rfl⟩ ⟨Nat.le_of_ble_eq_true rfl, Nat.le_of_ble_eq_true rfl⟩ (Nat.le_of_ble_eq_true rfl) dL_refusesAny_111 (frW _) rfl (pi (fun r80 u81 hw => ?_))
      refine v_to (wCD G a0 u81.1 u81.2.1 u81.2.2.1 u81.2.2.2.1 u81.2.2.2.2.1 u81.2.2.2.2.2.1 u81.2.2.2.2.2.2) 114 [(0, .ref a0.1), (1, .int x1), (2, .int x2), (3, .int x3), (4, .int x4), (5, .int t0), (6, .int z5)] _ [.int r80] rfl rfl rfl rfl ?_
      refine v_iconst (v := -1) (pc2 := 115) S dL_refusesAny_114 (by decide) rfl ?_
      refine v_icmp_ne (pc2 := 118) (tgt := 370) S dL_refusesAny_115 (by decide) rfl (fun c82 => ?_) (fun c82 => ?_)
      · have hw := hw.1 c82
        refine v_lv [(0, .ref a0.1), (1, .int x1), (2, .int x2), (3, .int x3), (4, .int x4), (5, .int t0)] [0, 1, 2, 3, 4, 5] rfl ?_
        exact B370 x1 x2 x3 x4 t0 u81 hw
      · have hw := hw.2 c82
        refine v_aload_n (pc2 := 119) S 0 dL_refusesAny_118 rfl rfl rfl ?_
        refine v_iload_n (pc2 := 120) S 2 dL_refusesAny_119 rfl rfl rfl ?_
        refine v_iconst (v := 1) (pc2 := 121) S dL_refusesAny_120 (by decide) rfl ?_
        refine v_iconst (v := 0) (pc2 := 122) S dL_refusesAny_121 (by decide) rfl ?_
        refine v_callV (pc2 := 125) (As := [.int x2, .int (1 : Int32), .int (0 : Int32)]) (rest := []) S (c_X8_cord l G a0 u81 x2 (1 : Int32) (0 : Int32) _ hw) mf_X8_cord u_593 u_594 u_595 0 8 rfl rfl rfl rfl ⟨rfl, rfl⟩ ⟨Nat.le_of_ble_eq_true rfl, Nat.le_of_ble_eq_true rfl⟩ ⟨Nat.le_of_ble_eq_true rfl, Nat.le_of_ble_eq_true rfl⟩ (Nat.le_of_ble_eq_true rfl) dL_refusesAny_122 (frW _) rfl (pi (fun r83 u84 hw => ?_))
        refine v_to (wCD G a0 u84.1 u84.2.1 u84.2.2.1 u84.2.2.2.1 u84.2.2.2.2.1 u84.2.2.2.2.2.1 u84.2.2.2.2.2.2) 125 [(0, .ref a0.1), (1, .int x1), (2, .int x2), (3, .int x3), (4, .int x4), (5, .int t0), (6, .int z5)] _ [.int r83] rfl rfl rfl rfl ?_
        refine v_iconst (v := -1) (pc2 := 126) S dL_refusesAny_125 (by decide) rfl ?_
        refine v_icmp_ne (pc2 := 129) (tgt := 370) S dL_refusesAny_126 (by decide) rfl (fun c85 => ?_) (fun c85 => ?_)
        · have hw := hw.1 c85
          refine v_lv [(0, .ref a0.1), (1, .int x1), (2, .int x2), (3, .int x3), (4, .int x4), (5, .int t0)] [0, 1, 2, 3, 4, 5] rfl ?_
          exact B370 x1 x2 x3 x4 t0 u84 hw
        · have hw := hw.2 c85
          refine v_aload_n (pc2 := 130) S 0 dL_refusesAny_129 rfl rfl rfl ?_
          refine v_iload (pc2 := 132) S 6 dL_refusesAny_130 rfl rfl ?_
          refine v_iconst (v := 0) (pc2 := 133) S dL_refusesAny_132 (by decide) rfl ?_
          refine v_iload_n (pc2 := 134) S 1 dL_refusesAny_133 rfl rfl rfl ?_
          refine v_iconst (v := 2) (pc2 := 135) S dL_refusesAny_134 (by decide) rfl ?_
          refine v_irem (pc2 := 136) S (by decide) dL_refusesAny_135 rfl ?_
          refine v_if_ne (pc2 := 139) (tgt := 143) S dL_refusesAny_136 (by decide) rfl (fun c86 => ?_) (fun c86 => ?_)
          · have hw := hw.1 c86
            refine v_bipush (v := 11) (pc2 := 145) S dL_refusesAny_143 (by decide) rfl ?_
            exact B145 x1 x2 x3 x4 t0 z5 z5 (0 : Int32) (11 : Int32) u84 hw
          · have hw := hw.2 c86
            refine v_iconst (v := -1) (pc2 := 140) S dL_refusesAny_139 (by decide) rfl ?_
            refine v_goto (tgt := 145) S dL_refusesAny_140 (by decide) ?_
            exact B145 x1 x2 x3 x4 t0 z5 z5 (0 : Int32) (-1 : Int32) u84 hw
  have B67 : ∀ (x1 : Int32) (x2 : Int32) (x3 : Int32) (t0 : Int32) (w0 : CDV), wp_L_refusesAny_B67 x1 x2 x3 t0 w0 Q → V p l e { frames := 16, cells := 0, slots := 0, locals := 375 } s m args below meth c G (va_A (wCD G a0 v0.1 v0.2.1 v0.2.2.1 v0.2.2.2.1 v0.2.2.2.2.1 v0.2.2.2.2.2.1 v0.2.2.2.2.2.2) s.heap.size) 8 0 0 (MQ below (EQ G (wCD G a0 v0.1 v0.2.1 v0.2.2.1 v0.2.2.2.1 v0.2.2.2.2.1 v0.2.2.2.2.2.1 v0.2.2.2.2.2.2) s.heap.size (PB (fun u : CDV => wCD G a0 u.1 u.2.1 u.2.2.1 u.2.2.2.1 u.2.2.2.2.1 u.2.2.2.2.2.1 u.2.2.2.2.2.2) Q)) args s 0 0 (va_A (wCD G a0 v0.1 v0.2.1 v0.2.2.1 v0.2.2.2.1 v0.2.2.2.2.1 v0.2.2.2.2.2.1 v0.2.2.2.2.2.2) s.heap.size)) (wCD G a0 w0.1 w0.2.1 w0.2.2.1 w0.2.2.2.1 w0.2.2.2.2.1 w0.2.2.2.2.2.1 w0.2.2.2.2.2.2) 67 [(0, .ref a0.1), (1, .int x1), (2, .int x2), (3, .int x3)] [.int t0] := by
    intro x1 x2 x3 t0 w0 hw
    refine v_istore (lv2 := [(0, .ref a0.1), (1, .int x1), (2, .int x2), (3, .int x3), (4, .int t0)]) (pc2 := 69) S dL_refusesAny_67 (by decide) [1, 2, 3, 4, 0] rfl rfl ?_
    refine v_iload_n (pc2 := 70) S 1 dL_refusesAny_69 rfl rfl rfl ?_
    refine v_iconst (v := 2) (pc2 := 71) S dL_refusesAny_70 (by decide) rfl ?_
    refine v_irem (pc2 := 72) S (by decide) dL_refusesAny_71 rfl ?_
    refine v_if_ne (pc2 := 75) (tgt := 84) S dL_refusesAny_72 (by decide) rfl (fun c4 => ?_) (fun c4 => ?_)
    · have hw := hw.1 c4
      refine v_sipush (v := 1024) (pc2 := 87) S dL_refusesAny_84 (by decide) rfl ?_
      refine v_iload_n (pc2 := 88) S 1 dL_refusesAny_87 rfl rfl rfl ?_
      refine v_bipush (v := 99) (pc2 := 90) S dL_refusesAny_88 (by decide) rfl ?_
      refine v_irem (pc2 := 91) S (by decide) dL_refusesAny_90 rfl ?_
      refine v_iadd (pc2 := 92) S dL_refusesAny_91 rfl ?_
      exact B92 x1 x2 x3 t0 ((1024 : Int32) + (x1 - x1 / (99 : Int32) * (99 : Int32))) w0 hw
    · have hw := hw.2 c4
      refine v_iconst (v := -1) (pc2 := 76) S dL_refusesAny_75 (by decide) rfl ?_
      refine v_iload_n (pc2 := 77) S 1 dL_refusesAny_76 rfl rfl rfl ?_
      refine v_bipush (v := 99) (pc2 := 79) S dL_refusesAny_77 (by decide) rfl ?_
      refine v_irem (pc2 := 80) S (by decide) dL_refusesAny_79 rfl ?_
      refine v_isub (pc2 := 81) S dL_refusesAny_80 rfl ?_
      refine v_goto (tgt := 92) S dL_refusesAny_81 (by decide) ?_
      exact B92 x1 x2 x3 t0 ((-1 : Int32) - (x1 - x1 / (99 : Int32) * (99 : Int32))) w0 hw
  have B44 : ∀ (x1 : Int32) (x2 : Int32) (t0 : Int32) (w0 : CDV), wp_L_refusesAny_B44 x1 x2 t0 w0 Q → V p l e { frames := 16, cells := 0, slots := 0, locals := 375 } s m args below meth c G (va_A (wCD G a0 v0.1 v0.2.1 v0.2.2.1 v0.2.2.2.1 v0.2.2.2.2.1 v0.2.2.2.2.2.1 v0.2.2.2.2.2.2) s.heap.size) 8 0 0 (MQ below (EQ G (wCD G a0 v0.1 v0.2.1 v0.2.2.1 v0.2.2.2.1 v0.2.2.2.2.1 v0.2.2.2.2.2.1 v0.2.2.2.2.2.2) s.heap.size (PB (fun u : CDV => wCD G a0 u.1 u.2.1 u.2.2.1 u.2.2.2.1 u.2.2.2.2.1 u.2.2.2.2.2.1 u.2.2.2.2.2.2) Q)) args s 0 0 (va_A (wCD G a0 v0.1 v0.2.1 v0.2.2.1 v0.2.2.2.1 v0.2.2.2.2.1 v0.2.2.2.2.2.1 v0.2.2.2.2.2.2) s.heap.size)) (wCD G a0 w0.1 w0.2.1 w0.2.2.1 w0.2.2.2.1 w0.2.2.2.2.1 w0.2.2.2.2.2.1 w0.2.2.2.2.2.2) 44 [(0, .ref a0.1), (1, .int x1), (2, .int x2)] [.int t0] := by
    intro x1 x2 t0 w0 hw
    refine v_istore_n (lv2 := [(0, .ref a0.1), (1, .int x1), (2, .int x2), (3, .int t0)]) (pc2 := 45) S dL_refusesAny_44 rfl (by decide) [1, 2, 3, 0] rfl rfl ?_
    refine v_iload_n (pc2 := 46) S 1 dL_refusesAny_45 rfl rfl rfl ?_
    refine v_iconst (v := 2) (pc2 := 47) S dL_refusesAny_46 (by decide) rfl ?_
    refine v_irem (pc2 := 48) S (by decide) dL_refusesAny_47 rfl ?_
    refine v_if_ne (pc2 := 51) (tgt := 60) S dL_refusesAny_48 (by decide) rfl (fun c3 => ?_) (fun c3 => ?_)
    · have hw := hw.1 c3
      refine v_bipush (v := 6) (pc2 := 62) S dL_refusesAny_60 (by decide) rfl ?_
      refine v_iload_n (pc2 := 63) S 1 dL_refusesAny_62 rfl rfl rfl ?_
      refine v_bipush (v := 99) (pc2 := 65) S dL_refusesAny_63 (by decide) rfl ?_
      refine v_irem (pc2 := 66) S (by decide) dL_refusesAny_65 rfl ?_
      refine v_iadd (pc2 := 67) S dL_refusesAny_66 rfl ?_
      exact B67 x1 x2 t0 ((6 : Int32) + (x1 - x1 / (99 : Int32) * (99 : Int32))) w0 hw
    · have hw := hw.2 c3
      refine v_iconst (v := -1) (pc2 := 52) S dL_refusesAny_51 (by decide) rfl ?_
      refine v_iload_n (pc2 := 53) S 1 dL_refusesAny_52 rfl rfl rfl ?_
      refine v_bipush (v := 99) (pc2 := 55) S dL_refusesAny_53 (by decide) rfl ?_
      refine v_irem (pc2 := 56) S (by decide) dL_refusesAny_55 rfl ?_
      refine v_isub (pc2 := 57) S dL_refusesAny_56 rfl ?_
      refine v_goto (tgt := 67) S dL_refusesAny_57 (by decide) ?_
      exact B67 x1 x2 t0 ((-1 : Int32) - (x1 - x1 / (99 : Int32) * (99 : Int32))) w0 hw
  have B22 : ∀ (x1 : Int32) (t0 : Int32) (w0 : CDV), wp_L_refusesAny_B22 x1 t0 w0 Q → V p l e { frames := 16, cells := 0, slots := 0, locals := 375 } s m args below meth c G (va_A (wCD G a0 v0.1 v0.2.1 v0.2.2.1 v0.2.2.2.1 v0.2.2.2.2.1 v0.2.2.2.2.2.1 v0.2.2.2.2.2.2) s.heap.size) 8 0 0 (MQ below (EQ G (wCD G a0 v0.1 v0.2.1 v0.2.2.1 v0.2.2.2.1 v0.2.2.2.2.1 v0.2.2.2.2.2.1 v0.2.2.2.2.2.2) s.heap.size (PB (fun u : CDV => wCD G a0 u.1 u.2.1 u.2.2.1 u.2.2.2.1 u.2.2.2.2.1 u.2.2.2.2.2.1 u.2.2.2.2.2.2) Q)) args s 0 0 (va_A (wCD G a0 v0.1 v0.2.1 v0.2.2.1 v0.2.2.2.1 v0.2.2.2.2.1 v0.2.2.2.2.2.1 v0.2.2.2.2.2.2) s.heap.size)) (wCD G a0 w0.1 w0.2.1 w0.2.2.1 w0.2.2.2.1 w0.2.2.2.2.1 w0.2.2.2.2.2.1 w0.2.2.2.2.2.2) 22 [(0, .ref a0.1), (1, .int x1)] [.int t0] := by
    intro x1 t0 w0 hw
    refine v_istore_n (lv2 := [(0, .ref a0.1), (1, .int x1), (2, .int t0)]) (pc2 := 23) S dL_refusesAny_22 rfl (by decide) [1, 2, 0] rfl rfl ?_
    refine v_iload_n (pc2 := 24) S 1 dL_refusesAny_23 rfl rfl rfl ?_
    refine v_iconst (v := 2) (pc2 := 25) S dL_refusesAny_24 (by decide) rfl ?_
    refine v_irem (pc2 := 26) S (by decide) dL_refusesAny_25 rfl ?_
    refine v_if_ne (pc2 := 29) (tgt := 38) S dL_refusesAny_26 (by decide) rfl (fun c2 => ?_) (fun c2 => ?_)
    · have hw := hw.1 c2
      refine v_iconst (v := 3) (pc2 := 39) S dL_refusesAny_38 (by decide) rfl ?_
      refine v_iload_n (pc2 := 40) S 1 dL_refusesAny_39 rfl rfl rfl ?_
      refine v_bipush (v := 99) (pc2 := 42) S dL_refusesAny_40 (by decide) rfl ?_
      refine v_irem (pc2 := 43) S (by decide) dL_refusesAny_42 rfl ?_
      refine v_iadd (pc2 := 44) S dL_refusesAny_43 rfl ?_
      exact B44 x1 t0 ((3 : Int32) + (x1 - x1 / (99 : Int32) * (99 : Int32))) w0 hw
    · have hw := hw.2 c2
      refine v_iconst (v := -1) (pc2 := 30) S dL_refusesAny_29 (by decide) rfl ?_
      refine v_iload_n (pc2 := 31) S 1 dL_refusesAny_30 rfl rfl rfl ?_
      refine v_bipush (v := 99) (pc2 := 33) S dL_refusesAny_31 (by decide) rfl ?_
      refine v_irem (pc2 := 34) S (by decide) dL_refusesAny_33 rfl ?_
      refine v_isub (pc2 := 35) S dL_refusesAny_34 rfl ?_
      refine v_goto (tgt := 44) S dL_refusesAny_35 (by decide) ?_
      exact B44 x1 t0 ((-1 : Int32) - (x1 - x1 / (99 : Int32) * (99 : Int32))) w0 hw
  refine v_iload_n (pc2 := 1) S 1 dL_refusesAny_0 rfl rfl rfl ?_
  refine v_iconst (v := 2) (pc2 := 2) S dL_refusesAny_1 (by decide) rfl ?_
  refine v_irem (pc2 := 3) S (by decide) dL_refusesAny_2 rfl ?_
  refine v_if_ne (pc2 := 6) (tgt := 15) S dL_refusesAny_3 (by decide) rfl (fun c1 => ?_) (fun c1 => ?_)
  · have hw := hw.1 c1
    refine v_bipush (v := 10) (pc2 := 17) S dL_refusesAny_15 (by decide) rfl ?_
    refine v_iload_n (pc2 := 18) S 1 dL_refusesAny_17 rfl rfl rfl ?_
    refine v_bipush (v := 99) (pc2 := 20) S dL_refusesAny_18 (by decide) rfl ?_
    refine v_irem (pc2 := 21) S (by decide) dL_refusesAny_20 rfl ?_
    refine v_iadd (pc2 := 22) S dL_refusesAny_21 rfl ?_
    exact B22 i0 ((10 : Int32) + (i0 - i0 / (99 : Int32) * (99 : Int32))) v0 hw
  · have hw := hw.2 c1
    refine v_iconst (v := -1) (pc2 := 7) S dL_refusesAny_6 (by decide) rfl ?_
    refine v_iload_n (pc2 := 8) S 1 dL_refusesAny_7 rfl rfl rfl ?_
    refine v_bipush (v := 99) (pc2 := 10) S dL_refusesAny_8 (by decide) rfl ?_
    refine v_irem (pc2 := 11) S (by decide) dL_refusesAny_10 rfl ?_
    refine v_isub (pc2 := 12) S dL_refusesAny_11 rfl ?_
    refine v_goto (tgt := 22) S dL_refusesAny_12 (by decide) ?_
    exact B22 i0 ((-1 : Int32) - (i0 - i0 / (99 : Int32) * (99 : Int32))) v0 hw
set_option maxHeartbeats 4000000 in
set_option maxRecDepth 100000 in
theorem c_L_refuses (l : Launch) (G : GG) (a0 : CDA) (v0 : CDV) (i0 : Int32) (Q : Int32 → CDV → Prop) (hw : wp_L_refuses v0 i0 Q) : Con l G yL_refuses cL_refuses 5 (some .boolean) { frames := 17, cells := 0, slots := 0, locals := 402 } [.ref a0.1, .int i0] (wCD G a0 v0.1 v0.2.1 v0.2.2.1 v0.2.2.2.1 v0.2.2.2.2.1 v0.2.2.2.2.2.1 v0.2.2.2.2.2.2) (PB (fun u : CDV => wCD G a0 u.1 u.2.1 u.2.2.1 u.2.2.2.1 u.2.2.2.2.1 u.2.2.2.2.2.1 u.2.2.2.2.2.2) Q) 0 0 := by
  refine con_of RL rfl (by decide) [(0, .ref a0.1), (1, .int i0)] rfl (Nat.le_of_ble_eq_true rfl) ?_
  intro p e s m args below meth c S hname
  refine v_aload_n (pc2 := 1) S 0 dL_refuses_0 rfl rfl rfl ?_
  refine v_callS (pc2 := 4) (As := [.ref a0.1]) (rest := []) S (c_L_seen l G a0 v0 _ hw) mf_L_seen u_479 u_480 rfl rfl ⟨rfl, rfl⟩ ⟨Nat.le_of_ble_eq_true rfl, Nat.le_of_ble_eq_true rfl⟩ ⟨Nat.le_of_ble_eq_true rfl, Nat.le_of_ble_eq_true rfl⟩ (Nat.le_of_ble_eq_true rfl) dL_refuses_1 (frW _) rfl (pl (fun r1 u2 hw => ?_))
  refine v_to (wCD G a0 v0.1 v0.2.1 v0.2.2.1 v0.2.2.2.1 v0.2.2.2.2.1 v0.2.2.2.2.2.1 v0.2.2.2.2.2.2) 4 [(0, .ref a0.1), (1, .int i0)] _ [.long r1] rfl rfl rfl rfl ?_
  refine v_nml (fun z3 ez3 => ?_)
  have hw := hw z3 ez3
  refine v_lstore_n (lv2 := [(0, .ref a0.1), (1, .int i0), (2, .long z3)]) (pc2 := 5) S dL_refuses_4 rfl (by decide) [1, 2, 0] rfl rfl ?_
  refine v_aload_n (pc2 := 6) S 0 dL_refuses_5 rfl rfl rfl ?_
  refine v_bipush (v := 14) (pc2 := 8) S dL_refuses_6 (by decide) rfl ?_
  refine v_callV (pc2 := 11) (As := [.int (14 : Int32)]) (rest := []) S (c_X8_count l G a0 v0 (14 : Int32) _ hw) mf_X8_count u_398 u_399 u_400 0 8 rfl rfl rfl rfl ⟨rfl, rfl⟩ ⟨Nat.le_of_ble_eq_true rfl, Nat.le_of_ble_eq_true rfl⟩ ⟨Nat.le_of_ble_eq_true rfl, Nat.le_of_ble_eq_true rfl⟩ (Nat.le_of_ble_eq_true rfl) dL_refuses_8 (frW _) rfl (pi (fun r4 u5 hw => ?_))
  refine v_to (wCD G a0 v0.1 v0.2.1 v0.2.2.1 v0.2.2.2.1 v0.2.2.2.2.1 v0.2.2.2.2.2.1 v0.2.2.2.2.2.2) 11 [(0, .ref a0.1), (1, .int i0), (2, .long z3)] _ [.int r4] rfl rfl rfl rfl ?_
  refine v_istore (lv2 := [(0, .ref a0.1), (1, .int i0), (2, .long z3), (4, .int r4)]) (pc2 := 13) S dL_refuses_11 (by decide) [1, 2, 3, 0] rfl rfl ?_
  refine v_aload_n (pc2 := 14) S 0 dL_refuses_13 rfl rfl rfl ?_
  refine v_iload_n (pc2 := 15) S 1 dL_refuses_14 rfl rfl rfl ?_
  refine v_callS (pc2 := 18) (As := [.ref a0.1, .int i0]) (rest := []) S (c_L_refusesAny l G a0 v0 i0 _ hw) mf_L_refusesAny u_540 u_541 rfl rfl ⟨rfl, rfl⟩ ⟨Nat.le_of_ble_eq_true rfl, Nat.le_of_ble_eq_true rfl⟩ ⟨Nat.le_of_ble_eq_true rfl, Nat.le_of_ble_eq_true rfl⟩ (Nat.le_of_ble_eq_true rfl) dL_refuses_15 (frW _) rfl (pb (fun r6 u7 br6 hw => ?_))
  refine v_to (wCD G a0 u7.1 u7.2.1 u7.2.2.1 u7.2.2.2.1 u7.2.2.2.2.1 u7.2.2.2.2.2.1 u7.2.2.2.2.2.2) 18 [(0, .ref a0.1), (1, .int i0), (2, .long z3), (4, .int r4)] _ [.int r6] rfl rfl rfl rfl ?_
  refine v_if_eq (pc2 := 21) (tgt := 45) S dL_refuses_18 (by decide) rfl (fun c8 => ?_) (fun c8 => ?_)
  · have hw := hw.1 c8
    refine v_iconst (v := 0) (pc2 := 46) S dL_refuses_45 (by decide) rfl ?_
    exact v_zret S (by decide) ⟨(0 : Int32), u7, rfl, (by decide), rfl, hw⟩ dL_refuses_46
  · have hw := hw.2 c8
    refine v_aload_n (pc2 := 22) S 0 dL_refuses_21 rfl rfl rfl ?_
    refine v_callS (pc2 := 25) (As := [.ref a0.1]) (rest := []) S (c_L_seen l G a0 u7 _ hw) mf_L_seen u_479 u_480 rfl rfl ⟨rfl, rfl⟩ ⟨Nat.le_of_ble_eq_true rfl, Nat.le_of_ble_eq_true rfl⟩ ⟨Nat.le_of_ble_eq_true rfl, Nat.le_of_ble_eq_true rfl⟩ (Nat.le_of_ble_eq_true rfl) dL_refuses_22 (frW _) rfl (pl (fun r9 u10 hw => ?_))
    refine v_to (wCD G a0 u7.1 u7.2.1 u7.2.2.1 u7.2.2.2.1 u7.2.2.2.2.1 u7.2.2.2.2.2.1 u7.2.2.2.2.2.2) 25 [(0, .ref a0.1), (1, .int i0), (2, .long z3), (4, .int r4)] _ [.long r9] rfl rfl rfl rfl ?_
    refine v_lload_n (pc2 := 26) S 2 dL_refuses_25 rfl rfl rfl ?_
    refine v_lcmp (pc2 := 27) S dL_refuses_26 rfl ?_
    refine v_if_ne (pc2 := 30) (tgt := 45) S dL_refuses_27 (by decide) rfl (fun c11 => ?_) (fun c11 => ?_)
    · have hw := hw.1 c11
      refine v_iconst (v := 0) (pc2 := 46) S dL_refuses_45 (by decide) rfl ?_
      exact v_zret S (by decide) ⟨(0 : Int32), u7, rfl, (by decide), rfl, hw⟩ dL_refuses_46
    · have hw := hw.2 c11
      refine v_aload_n (pc2 := 31) S 0 dL_refuses_30 rfl rfl rfl ?_
      refine v_bipush (v := 14) (pc2 := 33) S dL_refuses_31 (by decide) rfl ?_
      refine v_callV (pc2 := 36) (As := [.int (14 : Int32)]) (rest := []) S (c_X8_count l G a0 u7 (14 : Int32) _ hw) mf_X8_count u_398 u_399 u_400 0 8 rfl rfl rfl rfl ⟨rfl, rfl⟩ ⟨Nat.le_of_ble_eq_true rfl, Nat.le_of_ble_eq_true rfl⟩ ⟨Nat.le_of_ble_eq_true rfl, Nat.le_of_ble_eq_true rfl⟩ (Nat.le_of_ble_eq_true rfl) dL_refuses_33 (frW _) rfl (pi (fun r12 u13 hw => ?_))
      refine v_to (wCD G a0 u7.1 u7.2.1 u7.2.2.1 u7.2.2.2.1 u7.2.2.2.2.1 u7.2.2.2.2.2.1 u7.2.2.2.2.2.2) 36 [(0, .ref a0.1), (1, .int i0), (2, .long z3), (4, .int r4)] _ [.int r12] rfl rfl rfl rfl ?_
      refine v_iload (pc2 := 38) S 3 dL_refuses_36 rfl rfl ?_
      refine v_icmp_ne (pc2 := 41) (tgt := 45) S dL_refuses_38 (by decide) rfl (fun c14 => ?_) (fun c14 => ?_)
      · have hw := hw.1 c14
        refine v_iconst (v := 0) (pc2 := 46) S dL_refuses_45 (by decide) rfl ?_
        exact v_zret S (by decide) ⟨(0 : Int32), u7, rfl, (by decide), rfl, hw⟩ dL_refuses_46
      · have hw := hw.2 c14
        refine v_iconst (v := 1) (pc2 := 42) S dL_refuses_41 (by decide) rfl ?_
        refine v_goto (tgt := 46) S dL_refuses_42 (by decide) ?_
        exact v_zret S (by decide) ⟨(1 : Int32), u7, rfl, (by decide), rfl, hw⟩ dL_refuses_46
set_option maxHeartbeats 4000000 in
set_option maxRecDepth 100000 in
theorem c_L_act (l : Launch) (G : GG) (a0 : CDA) (v0 : CDV) (i0 : Int32) (Q : Int32 → CDV → Prop) (hw : wp_L_act v0 i0 Q) : Con l G yL_act cL_act 16 (some .int) { frames := 6, cells := 0, slots := 0, locals := 147 } [.ref a0.1, .int i0] (wCD G a0 v0.1 v0.2.1 v0.2.2.1 v0.2.2.2.1 v0.2.2.2.2.1 v0.2.2.2.2.2.1 v0.2.2.2.2.2.2) (PI (fun u : CDV => wCD G a0 u.1 u.2.1 u.2.2.1 u.2.2.2.1 u.2.2.2.2.1 u.2.2.2.2.2.1 u.2.2.2.2.2.2) Q) 0 0 := by
  refine con_of RL rfl (by decide) [(0, .ref a0.1), (1, .int i0)] rfl (Nat.le_of_ble_eq_true rfl) ?_
  intro p e s m args below meth c S hname
  have B686 : ∀ (x4 : Int32) (x10 : Int32) (x12 : Int32) (x15 : Int32) (t0 : Int32) (t1 : Int32) (w0 : CDV), wp_L_act_B686 x4 x10 x12 x15 t0 t1 w0 Q → V p l e { frames := 6, cells := 0, slots := 0, locals := 147 } s m args below meth c G (va_A (wCD G a0 v0.1 v0.2.1 v0.2.2.1 v0.2.2.2.1 v0.2.2.2.2.1 v0.2.2.2.2.2.1 v0.2.2.2.2.2.2) s.heap.size) 16 0 0 (MQ below (EQ G (wCD G a0 v0.1 v0.2.1 v0.2.2.1 v0.2.2.2.1 v0.2.2.2.2.1 v0.2.2.2.2.2.1 v0.2.2.2.2.2.2) s.heap.size (PI (fun u : CDV => wCD G a0 u.1 u.2.1 u.2.2.1 u.2.2.2.1 u.2.2.2.2.1 u.2.2.2.2.2.1 u.2.2.2.2.2.2) Q)) args s 0 0 (va_A (wCD G a0 v0.1 v0.2.1 v0.2.2.1 v0.2.2.2.1 v0.2.2.2.2.1 v0.2.2.2.2.2.1 v0.2.2.2.2.2.2) s.heap.size)) (wCD G a0 w0.1 w0.2.1 w0.2.2.1 w0.2.2.2.1 w0.2.2.2.2.1 w0.2.2.2.2.2.1 w0.2.2.2.2.2.2) 686 [(0, .ref a0.1), (4, .int x4), (10, .int x10), (12, .int x12), (15, .int x15)] [.int t1, .int t0] := by
    intro x4 x10 x12 x15 t0 t1 w0 hw
    refine v_icmp_ne (pc2 := 689) (tgt := 715) S dL_act_686 (by decide) rfl (fun c81 => ?_) (fun c81 => ?_)
    · have hw := hw.1 c81
      refine v_bipush (v := -9) (pc2 := 717) S dL_act_715 (by decide) rfl ?_
      exact v_iret S ⟨(-9 : Int32), w0, rfl, rfl, hw⟩ dL_act_717
    · have hw := hw.2 c81
      refine v_aload_n (pc2 := 690) S 0 dL_act_689 rfl rfl rfl ?_
      refine v_iload (pc2 := 692) S 1 dL_act_690 rfl rfl ?_
      refine v_iload (pc2 := 694) S 2 dL_act_692 rfl rfl ?_
      refine v_if_eq (pc2 := 697) (tgt := 701) S dL_act_694 (by decide) rfl (fun c82 => ?_) (fun c82 => ?_)
      · have hw := hw.1 c82
        refine v_iconst (v := 4) (pc2 := 702) S dL_act_701 (by decide) rfl ?_
        refine v_callV (pc2 := 705) (As := [.int x4, .int (4 : Int32)]) (rest := []) S (c_X8_door l G a0 w0 x4 (4 : Int32) _ hw) mf_X8_door u_484 u_485 u_486 0 8 rfl rfl rfl rfl ⟨rfl, rfl⟩ ⟨Nat.le_of_ble_eq_true rfl, Nat.le_of_ble_eq_true rfl⟩ ⟨Nat.le_of_ble_eq_true rfl, Nat.le_of_ble_eq_true rfl⟩ (Nat.le_of_ble_eq_true rfl) dL_act_702 (frW _) rfl (pi (fun r83 u84 hw => ?_))
        refine v_to (wCD G a0 w0.1 w0.2.1 w0.2.2.1 w0.2.2.2.1 w0.2.2.2.2.1 w0.2.2.2.2.2.1 w0.2.2.2.2.2.2) 705 [(0, .ref a0.1), (4, .int x4), (10, .int x10), (12, .int x12), (15, .int x15)] _ [.int r83] rfl rfl rfl rfl ?_
        refine v_iload (pc2 := 707) S 3 dL_act_705 rfl rfl ?_
        refine v_icmp_ne (pc2 := 710) (tgt := 715) S dL_act_707 (by decide) rfl (fun c85 => ?_) (fun c85 => ?_)
        · have hw := hw.1 c85
          refine v_bipush (v := -9) (pc2 := 717) S dL_act_715 (by decide) rfl ?_
          exact v_iret S ⟨(-9 : Int32), w0, rfl, rfl, hw⟩ dL_act_717
        · have hw := hw.2 c85
          refine v_iload (pc2 := 712) S 4 dL_act_710 rfl rfl ?_
          refine v_goto (tgt := 717) S dL_act_712 (by decide) ?_
          exact v_iret S ⟨x15, w0, rfl, rfl, hw⟩ dL_act_717
      · have hw := hw.2 c82
        refine v_iconst (v := 3) (pc2 := 698) S dL_act_697 (by decide) rfl ?_
        refine v_goto (tgt := 702) S dL_act_698 (by decide) ?_
        refine v_callV (pc2 := 705) (As := [.int x4, .int (3 : Int32)]) (rest := []) S (c_X8_door l G a0 w0 x4 (3 : Int32) _ hw) mf_X8_door u_484 u_485 u_486 0 8 rfl rfl rfl rfl ⟨rfl, rfl⟩ ⟨Nat.le_of_ble_eq_true rfl, Nat.le_of_ble_eq_true rfl⟩ ⟨Nat.le_of_ble_eq_true rfl, Nat.le_of_ble_eq_true rfl⟩ (Nat.le_of_ble_eq_true rfl) dL_act_702 (frW _) rfl (pi (fun r86 u87 hw => ?_))
        refine v_to (wCD G a0 w0.1 w0.2.1 w0.2.2.1 w0.2.2.2.1 w0.2.2.2.2.1 w0.2.2.2.2.2.1 w0.2.2.2.2.2.2) 705 [(0, .ref a0.1), (4, .int x4), (10, .int x10), (12, .int x12), (15, .int x15)] _ [.int r86] rfl rfl rfl rfl ?_
        refine v_iload (pc2 := 707) S 3 dL_act_705 rfl rfl ?_
        refine v_icmp_ne (pc2 := 710) (tgt := 715) S dL_act_707 (by decide) rfl (fun c88 => ?_) (fun c88 => ?_)
        · have hw := hw.1 c88
          refine v_bipush (v := -9) (pc2 := 717) S dL_act_715 (by decide) rfl ?_
          exact v_iret S ⟨(-9 : Int32), w0, rfl, rfl, hw⟩ dL_act_717
        · have hw := hw.2 c88
          refine v_iload (pc2 := 712) S 4 dL_act_710 rfl rfl ?_
          refine v_goto (tgt := 717) S dL_act_712 (by decide) ?_
          exact v_iret S ⟨x15, w0, rfl, rfl, hw⟩ dL_act_717
  have B657 : ∀ (x4 : Int32) (x10 : Int32) (x11 : Int32) (x12 : Int32) (x13 : Int32) (x14 : Int32) (x15 : Int32) (t1 : Int32) (t2 : Int32) (w0 : CDV), wp_L_act_B657 x4 x10 x11 x12 x13 x14 x15 t1 t2 w0 Q → V p l e { frames := 6, cells := 0, slots := 0, locals := 147 } s m args below meth c G (va_A (wCD G a0 v0.1 v0.2.1 v0.2.2.1 v0.2.2.2.1 v0.2.2.2.2.1 v0.2.2.2.2.2.1 v0.2.2.2.2.2.2) s.heap.size) 16 0 0 (MQ below (EQ G (wCD G a0 v0.1 v0.2.1 v0.2.2.1 v0.2.2.2.1 v0.2.2.2.2.1 v0.2.2.2.2.2.1 v0.2.2.2.2.2.2) s.heap.size (PI (fun u : CDV => wCD G a0 u.1 u.2.1 u.2.2.1 u.2.2.2.1 u.2.2.2.2.1 u.2.2.2.2.2.1 u.2.2.2.2.2.2) Q)) args s 0 0 (va_A (wCD G a0 v0.1 v0.2.1 v0.2.2.1 v0.2.2.2.1 v0.2.2.2.2.1 v0.2.2.2.2.2.1 v0.2.2.2.2.2.2) s.heap.size)) (wCD G a0 w0.1 w0.2.1 w0.2.2.1 w0.2.2.2.1 w0.2.2.2.2.1 w0.2.2.2.2.2.1 w0.2.2.2.2.2.2) 657 [(0, .ref a0.1), (4, .int x4), (10, .int x10), (11, .int x11), (12, .int x12), (13, .int x13), (14, .int x14), (15, .int x15)] [.int t2, .int t1, .ref a0.1] := by
    intro x4 x10 x11 x12 x13 x14 x15 t1 t2 w0 hw
    refine v_callV (pc2 := 660) (As := [.int t1, .int t2]) (rest := []) S (c_X8_door l G a0 w0 t1 t2 _ hw) mf_X8_door u_484 u_485 u_486 0 8 rfl rfl rfl rfl ⟨rfl, rfl⟩ ⟨Nat.le_of_ble_eq_true rfl, Nat.le_of_ble_eq_true rfl⟩ ⟨Nat.le_of_ble_eq_true rfl, Nat.le_of_ble_eq_true rfl⟩ (Nat.le_of_ble_eq_true rfl) dL_act_657 (frW _) rfl (pi (fun r77 u78 hw => ?_))
    refine v_to (wCD G a0 w0.1 w0.2.1 w0.2.2.1 w0.2.2.2.1 w0.2.2.2.2.1 w0.2.2.2.2.2.1 w0.2.2.2.2.2.2) 660 [(0, .ref a0.1), (4, .int x4), (10, .int x10), (11, .int x11), (12, .int x12), (13, .int x13), (14, .int x14), (15, .int x15)] _ [.int r77] rfl rfl rfl rfl ?_
    refine v_iload (pc2 := 662) S 6 dL_act_660 rfl rfl ?_
    refine v_bipush (v := 10) (pc2 := 664) S dL_act_662 (by decide) rfl ?_
    refine v_icmp_ge (pc2 := 667) (tgt := 672) S dL_act_664 (by decide) rfl (fun c79 => ?_) (fun c79 => ?_)
    · have hw := hw.1 c79
      refine v_iload (pc2 := 674) S 3 dL_act_672 rfl rfl ?_
      refine v_bipush (v := 10) (pc2 := 676) S dL_act_674 (by decide) rfl ?_
      refine v_icmp_ne (pc2 := 679) (tgt := 684) S dL_act_676 (by decide) rfl (fun c80 => ?_) (fun c80 => ?_)
      · have hw := hw.1 c80
        refine v_iload (pc2 := 686) S 3 dL_act_684 rfl rfl ?_
        refine v_lv [(0, .ref a0.1), (4, .int x4), (10, .int x10), (12, .int x12), (15, .int x15)] [0, 1, 2, 4, 7] rfl ?_
        exact B686 x4 x10 x12 x15 r77 x11 w0 hw
      · have hw := hw.2 c80
        refine v_bipush (v := -4) (pc2 := 681) S dL_act_679 (by decide) rfl ?_
        refine v_goto (tgt := 686) S dL_act_681 (by decide) ?_
        refine v_lv [(0, .ref a0.1), (4, .int x4), (10, .int x10), (12, .int x12), (15, .int x15)] [0, 1, 2, 4, 7] rfl ?_
        exact B686 x4 x10 x12 x15 r77 (-4 : Int32) w0 hw
    · have hw := hw.2 c79
      refine v_iload (pc2 := 669) S 5 dL_act_667 rfl rfl ?_
      refine v_goto (tgt := 686) S dL_act_669 (by decide) ?_
      refine v_lv [(0, .ref a0.1), (4, .int x4), (10, .int x10), (12, .int x12), (15, .int x15)] [0, 1, 2, 4, 7] rfl ?_
      exact B686 x4 x10 x12 x15 r77 x13 w0 hw
  have B623 : ∀ (x4 : Int32) (x10 : Int32) (x11 : Int32) (x12 : Int32) (x13 : Int32) (t0 : Int32) (w0 : CDV), wp_L_act_B623 x4 x10 x11 x12 x13 t0 w0 Q → V p l e { frames := 6, cells := 0, slots := 0, locals := 147 } s m args below meth c G (va_A (wCD G a0 v0.1 v0.2.1 v0.2.2.1 v0.2.2.2.1 v0.2.2.2.2.1 v0.2.2.2.2.2.1 v0.2.2.2.2.2.2) s.heap.size) 16 0 0 (MQ below (EQ G (wCD G a0 v0.1 v0.2.1 v0.2.2.1 v0.2.2.2.1 v0.2.2.2.2.1 v0.2.2.2.2.2.1 v0.2.2.2.2.2.2) s.heap.size (PI (fun u : CDV => wCD G a0 u.1 u.2.1 u.2.2.1 u.2.2.2.1 u.2.2.2.2.1 u.2.2.2.2.2.1 u.2.2.2.2.2.2) Q)) args s 0 0 (va_A (wCD G a0 v0.1 v0.2.1 v0.2.2.1 v0.2.2.2.1 v0.2.2.2.2.1 v0.2.2.2.2.2.1 v0.2.2.2.2.2.2) s.heap.size)) (wCD G a0 w0.1 w0.2.1 w0.2.2.1 w0.2.2.2.1 w0.2.2.2.2.1 w0.2.2.2.2.2.1 w0.2.2.2.2.2.2) 623 [(0, .ref a0.1), (4, .int x4), (10, .int x10), (11, .int x11), (12, .int x12), (13, .int x13)] [.int t0] := by
    intro x4 x10 x11 x12 x13 t0 w0 hw
    refine v_istore (lv2 := [(0, .ref a0.1), (4, .int x4), (10, .int x10), (11, .int x11), (12, .int x12), (13, .int x13), (14, .int t0)]) (pc2 := 625) S dL_act_623 (by decide) [1, 2, 3, 4, 5, 6, 0] rfl rfl ?_
    refine v_aload_n (pc2 := 626) S 0 dL_act_625 rfl rfl rfl ?_
    refine v_iload (pc2 := 628) S 1 dL_act_626 rfl rfl ?_
    refine v_iload (pc2 := 630) S 2 dL_act_628 rfl rfl ?_
    refine v_iload (pc2 := 632) S 3 dL_act_630 rfl rfl ?_
    refine v_callV (pc2 := 635) (As := [.int x4, .int x10, .int x11]) (rest := []) S (c_X8_cord l G a0 w0 x4 x10 x11 _ hw) mf_X8_cord u_593 u_594 u_595 0 8 rfl rfl rfl rfl ⟨rfl, rfl⟩ ⟨Nat.le_of_ble_eq_true rfl, Nat.le_of_ble_eq_true rfl⟩ ⟨Nat.le_of_ble_eq_true rfl, Nat.le_of_ble_eq_true rfl⟩ (Nat.le_of_ble_eq_true rfl) dL_act_632 (frW _) rfl (pi (fun r73 u74 hw => ?_))
    refine v_to (wCD G a0 u74.1 u74.2.1 u74.2.2.1 u74.2.2.2.1 u74.2.2.2.2.1 u74.2.2.2.2.2.1 u74.2.2.2.2.2.2) 635 [(0, .ref a0.1), (4, .int x4), (10, .int x10), (11, .int x11), (12, .int x12), (13, .int x13), (14, .int t0)] _ [.int r73] rfl rfl rfl rfl ?_
    refine v_istore (lv2 := [(0, .ref a0.1), (4, .int x4), (10, .int x10), (11, .int x11), (12, .int x12), (13, .int x13), (14, .int t0), (15, .int r73)]) (pc2 := 637) S dL_act_635 (by decide) [1, 2, 3, 4, 5, 6, 7, 0] rfl rfl ?_
    refine v_iload (pc2 := 639) S 7 dL_act_637 rfl rfl ?_
    refine v_iload (pc2 := 641) S 6 dL_act_639 rfl rfl ?_
    refine v_icmp_ne (pc2 := 644) (tgt := 715) S dL_act_641 (by decide) rfl (fun c75 => ?_) (fun c75 => ?_)
    · have hw := hw.1 c75
      refine v_bipush (v := -9) (pc2 := 717) S dL_act_715 (by decide) rfl ?_
      exact v_iret S ⟨(-9 : Int32), u74, rfl, rfl, hw⟩ dL_act_717
    · have hw := hw.2 c75
      refine v_aload_n (pc2 := 645) S 0 dL_act_644 rfl rfl rfl ?_
      refine v_iload (pc2 := 647) S 1 dL_act_645 rfl rfl ?_
      refine v_iload (pc2 := 649) S 2 dL_act_647 rfl rfl ?_
      refine v_if_eq (pc2 := 652) (tgt := 656) S dL_act_649 (by decide) rfl (fun c76 => ?_) (fun c76 => ?_)
      · have hw := hw.1 c76
        refine v_iconst (v := 3) (pc2 := 657) S dL_act_656 (by decide) rfl ?_
        exact B657 x4 x10 x11 x12 x13 t0 r73 x4 (3 : Int32) u74 hw
      · have hw := hw.2 c76
        refine v_iconst (v := 4) (pc2 := 653) S dL_act_652 (by decide) rfl ?_
        refine v_goto (tgt := 657) S dL_act_653 (by decide) ?_
        exact B657 x4 x10 x11 x12 x13 t0 r73 x4 (4 : Int32) u74 hw
  have B590 : ∀ (x4 : Int32) (x10 : Int32) (x11 : Int32) (x12 : Int32) (x13 : Int32) (w0 : CDV), wp_L_act_B590 x4 x10 x11 x12 x13 w0 Q → V p l e { frames := 6, cells := 0, slots := 0, locals := 147 } s m args below meth c G (va_A (wCD G a0 v0.1 v0.2.1 v0.2.2.1 v0.2.2.2.1 v0.2.2.2.2.1 v0.2.2.2.2.2.1 v0.2.2.2.2.2.2) s.heap.size) 16 0 0 (MQ below (EQ G (wCD G a0 v0.1 v0.2.1 v0.2.2.1 v0.2.2.2.1 v0.2.2.2.2.1 v0.2.2.2.2.2.1 v0.2.2.2.2.2.2) s.heap.size (PI (fun u : CDV => wCD G a0 u.1 u.2.1 u.2.2.1 u.2.2.2.1 u.2.2.2.2.1 u.2.2.2.2.2.1 u.2.2.2.2.2.2) Q)) args s 0 0 (va_A (wCD G a0 v0.1 v0.2.1 v0.2.2.1 v0.2.2.2.1 v0.2.2.2.2.1 v0.2.2.2.2.2.1 v0.2.2.2.2.2.2) s.heap.size)) (wCD G a0 w0.1 w0.2.1 w0.2.2.1 w0.2.2.2.1 w0.2.2.2.2.1 w0.2.2.2.2.2.1 w0.2.2.2.2.2.2) 590 [(0, .ref a0.1), (4, .int x4), (10, .int x10), (11, .int x11), (12, .int x12), (13, .int x13)] [] := by
    intro x4 x10 x11 x12 x13 w0 hw
    refine v_iconst (v := -1) (pc2 := 591) S dL_act_590 (by decide) rfl ?_
    refine v_goto (tgt := 623) S dL_act_591 (by decide) ?_
    exact B623 x4 x10 x11 x12 x13 (-1 : Int32) w0 hw
  have B621 : ∀ (x4 : Int32) (x10 : Int32) (x11 : Int32) (x12 : Int32) (x13 : Int32) (w0 : CDV), wp_L_act_B621 x4 x10 x11 x12 x13 w0 Q → V p l e { frames := 6, cells := 0, slots := 0, locals := 147 } s m args below meth c G (va_A (wCD G a0 v0.1 v0.2.1 v0.2.2.1 v0.2.2.2.1 v0.2.2.2.2.1 v0.2.2.2.2.2.1 v0.2.2.2.2.2.2) s.heap.size) 16 0 0 (MQ below (EQ G (wCD G a0 v0.1 v0.2.1 v0.2.2.1 v0.2.2.2.1 v0.2.2.2.2.1 v0.2.2.2.2.2.1 v0.2.2.2.2.2.2) s.heap.size (PI (fun u : CDV => wCD G a0 u.1 u.2.1 u.2.2.1 u.2.2.2.1 u.2.2.2.2.1 u.2.2.2.2.2.1 u.2.2.2.2.2.2) Q)) args s 0 0 (va_A (wCD G a0 v0.1 v0.2.1 v0.2.2.1 v0.2.2.2.1 v0.2.2.2.2.1 v0.2.2.2.2.2.1 v0.2.2.2.2.2.2) s.heap.size)) (wCD G a0 w0.1 w0.2.1 w0.2.2.1 w0.2.2.2.1 w0.2.2.2.2.1 w0.2.2.2.2.2.1 w0.2.2.2.2.2.2) 621 [(0, .ref a0.1), (4, .int x4), (10, .int x10), (11, .int x11), (12, .int x12), (13, .int x13)] [] := by
    intro x4 x10 x11 x12 x13 w0 hw
    refine v_bipush (v := 10) (pc2 := 623) S dL_act_621 (by decide) rfl ?_
    exact B623 x4 x10 x11 x12 x13 (10 : Int32) w0 hw
  have B594 : ∀ (x4 : Int32) (x8 : Int32) (x10 : Int32) (x11 : Int32) (x12 : Int32) (x13 : Int32) (w0 : CDV), wp_L_act_B594 x4 x8 x10 x11 x12 x13 w0 Q → V p l e { frames := 6, cells := 0, slots := 0, locals := 147 } s m args below meth c G (va_A (wCD G a0 v0.1 v0.2.1 v0.2.2.1 v0.2.2.2.1 v0.2.2.2.2.1 v0.2.2.2.2.2.1 v0.2.2.2.2.2.2) s.heap.size) 16 0 0 (MQ below (EQ G (wCD G a0 v0.1 v0.2.1 v0.2.2.1 v0.2.2.2.1 v0.2.2.2.2.1 v0.2.2.2.2.2.1 v0.2.2.2.2.2.2) s.heap.size (PI (fun u : CDV => wCD G a0 u.1 u.2.1 u.2.2.1 u.2.2.2.1 u.2.2.2.2.1 u.2.2.2.2.2.1 u.2.2.2.2.2.2) Q)) args s 0 0 (va_A (wCD G a0 v0.1 v0.2.1 v0.2.2.1 v0.2.2.2.1 v0.2.2.2.2.1 v0.2.2.2.2.2.1 v0.2.2.2.2.2.2) s.heap.size)) (wCD G a0 w0.1 w0.2.1 w0.2.2.1 w0.2.2.2.1 w0.2.2.2.2.1 w0.2.2.2.2.2.1 w0.2.2.2.2.2.2) 594 [(0, .ref a0.1), (4, .int x4), (8, .int x8), (10, .int x10), (11, .int x11), (12, .int x12), (13, .int x13)] [] := by
    intro x4 x8 x10 x11 x12 x13 w0 hw
    refine v_iload (pc2 := 596) S 4 dL_act_594 rfl rfl ?_
    refine v_bipush (v := 10) (pc2 := 598) S dL_act_596 (by decide) rfl ?_
    refine v_icmp_ge (pc2 := 601) (tgt := 621) S dL_act_598 (by decide) rfl (fun c90 => ?_) (fun c90 => ?_)
    · have hw := hw.1 c90
      refine v_lv [(0, .ref a0.1), (4, .int x4), (10, .int x10), (11, .int x11), (12, .int x12), (13, .int x13)] [0, 1, 3, 4, 5, 6] rfl ?_
      exact B621 x4 x10 x11 x12 x13 w0 hw
    · have hw := hw.2 c90
      refine v_iload (pc2 := 603) S 2 dL_act_601 rfl rfl ?_
      refine v_if_eq (pc2 := 606) (tgt := 621) S dL_act_603 (by decide) rfl (fun c91 => ?_) (fun c91 => ?_)
      · have hw := hw.1 c91
        refine v_lv [(0, .ref a0.1), (4, .int x4), (10, .int x10), (11, .int x11), (12, .int x12), (13, .int x13)] [0, 1, 3, 4, 5, 6] rfl ?_
        exact B621 x4 x10 x11 x12 x13 w0 hw
      · have hw := hw.2 c91
        refine v_aload_n (pc2 := 607) S 0 dL_act_606 rfl rfl rfl ?_
        refine v_iload (pc2 := 609) S 4 dL_act_607 rfl rfl ?_
        refine v_iconst (v := 0) (pc2 := 610) S dL_act_609 (by decide) rfl ?_
        refine v_callV (pc2 := 613) (As := [.int x11, .int (0 : Int32)]) (rest := []) S (c_X8_door l G a0 w0 x11 (0 : Int32) _ hw) mf_X8_door u_484 u_485 u_486 0 8 rfl rfl rfl rfl ⟨rfl, rfl⟩ ⟨Nat.le_of_ble_eq_true rfl, Nat.le_of_ble_eq_true rfl⟩ ⟨Nat.le_of_ble_eq_true rfl, Nat.le_of_ble_eq_true rfl⟩ (Nat.le_of_ble_eq_true rfl) dL_act_610 (frW _) rfl (pi (fun r92 u93 hw => ?_))
        refine v_to (wCD G a0 w0.1 w0.2.1 w0.2.2.1 w0.2.2.2.1 w0.2.2.2.2.1 w0.2.2.2.2.2.1 w0.2.2.2.2.2.2) 613 [(0, .ref a0.1), (4, .int x4), (8, .int x8), (10, .int x10), (11, .int x11), (12, .int x12), (13, .int x13)] _ [.int r92] rfl rfl rfl rfl ?_
        refine v_iconst (v := 1) (pc2 := 614) S dL_act_613 (by decide) rfl ?_
        refine v_icmp_ne (pc2 := 617) (tgt := 621) S dL_act_614 (by decide) rfl (fun c94 => ?_) (fun c94 => ?_)
        · have hw := hw.1 c94
          refine v_lv [(0, .ref a0.1), (4, .int x4), (10, .int x10), (11, .int x11), (12, .int x12), (13, .int x13)] [0, 1, 3, 4, 5, 6] rfl ?_
          exact B621 x4 x10 x11 x12 x13 w0 hw
        · have hw := hw.2 c94
          refine v_iconst (v := 4) (pc2 := 618) S dL_act_617 (by decide) rfl ?_
          refine v_goto (tgt := 623) S dL_act_618 (by decide) ?_
          refine v_lv [(0, .ref a0.1), (4, .int x4), (10, .int x10), (11, .int x11), (12, .int x12), (13, .int x13)] [0, 1, 3, 4, 5, 6] rfl ?_
          exact B623 x4 x10 x11 x12 x13 (4 : Int32) w0 hw
  have B564 : ∀ (x4 : Int32) (x8 : Int32) (x10 : Int32) (x11 : Int32) (x12 : Int32) (t1 : Int32) (t2 : Int32) (w0 : CDV), wp_L_act_B564 x4 x8 x10 x11 x12 t1 t2 w0 Q → V p l e { frames := 6, cells := 0, slots := 0, locals := 147 } s m args below meth c G (va_A (wCD G a0 v0.1 v0.2.1 v0.2.2.1 v0.2.2.2.1 v0.2.2.2.2.1 v0.2.2.2.2.2.1 v0.2.2.2.2.2.2) s.heap.size) 16 0 0 (MQ below (EQ G (wCD G a0 v0.1 v0.2.1 v0.2.2.1 v0.2.2.2.1 v0.2.2.2.2.1 v0.2.2.2.2.2.1 v0.2.2.2.2.2.2) s.heap.size (PI (fun u : CDV => wCD G a0 u.1 u.2.1 u.2.2.1 u.2.2.2.1 u.2.2.2.2.1 u.2.2.2.2.2.1 u.2.2.2.2.2.2) Q)) args s 0 0 (va_A (wCD G a0 v0.1 v0.2.1 v0.2.2.1 v0.2.2.2.1 v0.2.2.2.2.1 v0.2.2.2.2.2.1 v0.2.2.2.2.2.2) s.heap.size)) (wCD G a0 w0.1 w0.2.1 w0.2.2.1 w0.2.2.2.1 w0.2.2.2.2.1 w0.2.2.2.2.2.1 w0.2.2.2.2.2.2) 564 [(0, .ref a0.1), (4, .int x4), (8, .int x8), (10, .int x10), (11, .int x11), (12, .int x12)] [.int t2, .int t1, .ref a0.1] := by
    intro x4 x8 x10 x11 x12 t1 t2 w0 hw
    refine v_callV (pc2 := 567) (As := [.int t1, .int t2]) (rest := []) S (c_X8_door l G a0 w0 t1 t2 _ hw) mf_X8_door u_484 u_485 u_486 0 8 rfl rfl rfl rfl ⟨rfl, rfl⟩ ⟨Nat.le_of_ble_eq_true rfl, Nat.le_of_ble_eq_true rfl⟩ ⟨Nat.le_of_ble_eq_true rfl, Nat.le_of_ble_eq_true rfl⟩ (Nat.le_of_ble_eq_true rfl) dL_act_564 (frW _) rfl (pi (fun r70 u71 hw => ?_))
    refine v_to (wCD G a0 w0.1 w0.2.1 w0.2.2.1 w0.2.2.2.1 w0.2.2.2.2.1 w0.2.2.2.2.2.1 w0.2.2.2.2.2.2) 567 [(0, .ref a0.1), (4, .int x4), (8, .int x8), (10, .int x10), (11, .int x11), (12, .int x12)] _ [.int r70] rfl rfl rfl rfl ?_
    refine v_istore (lv2 := [(0, .ref a0.1), (4, .int x4), (8, .int x8), (10, .int x10), (11, .int x11), (12, .int x12), (13, .int r70)]) (pc2 := 569) S dL_act_567 (by decide) [1, 2, 3, 4, 5, 6, 0] rfl rfl ?_
    refine v_iload (pc2 := 571) S 4 dL_act_569 rfl rfl ?_
    refine v_iload (pc2 := 573) S 1 dL_act_571 rfl rfl ?_
    refine v_icmp_eq (pc2 := 576) (tgt := 590) S dL_act_573 (by decide) rfl (fun c72 => ?_) (fun c72 => ?_)
    · have hw := hw.1 c72
      refine v_lv [(0, .ref a0.1), (4, .int x4), (10, .int x10), (11, .int x11), (12, .int x12), (13, .int r70)] [0, 1, 3, 4, 5, 6] rfl ?_
      exact B590 x4 x10 x11 x12 r70 w0 hw
    · have hw := hw.2 c72
      refine v_iload (pc2 := 578) S 4 dL_act_576 rfl rfl ?_
      refine v_bipush (v := 10) (pc2 := 580) S dL_act_578 (by decide) rfl ?_
      refine v_icmp_ge (pc2 := 583) (tgt := 594) S dL_act_580 (by decide) rfl (fun c89 => ?_) (fun c89 => ?_)
      · have hw := hw.1 c89
        exact B594 x4 x8 x10 x11 x12 r70 w0 hw
      · have hw := hw.2 c89
        refine v_iload (pc2 := 585) S 4 dL_act_583 rfl rfl ?_
        refine v_iload (pc2 := 587) S 5 dL_act_585 rfl rfl ?_
        refine v_icmp_ne (pc2 := 590) (tgt := 594) S dL_act_587 (by decide) rfl (fun c95 => ?_) (fun c95 => ?_)
        · have hw := hw.1 c95
          exact B594 x4 x8 x10 x11 x12 r70 w0 hw
        · have hw := hw.2 c95
          refine v_lv [(0, .ref a0.1), (4, .int x4), (10, .int x10), (11, .int x11), (12, .int x12), (13, .int r70)] [0, 1, 3, 4, 5, 6] rfl ?_
          exact B590 x4 x10 x11 x12 r70 w0 hw
  have B546 : ∀ (x4 : Int32) (x8 : Int32) (x10 : Int32) (x11 : Int32) (t1 : Int32) (t2 : Int32) (w0 : CDV), wp_L_act_B546 x4 x8 x10 x11 t1 t2 w0 Q → V p l e { frames := 6, cells := 0, slots := 0, locals := 147 } s m args below meth c G (va_A (wCD G a0 v0.1 v0.2.1 v0.2.2.1 v0.2.2.2.1 v0.2.2.2.2.1 v0.2.2.2.2.2.1 v0.2.2.2.2.2.2) s.heap.size) 16 0 0 (MQ below (EQ G (wCD G a0 v0.1 v0.2.1 v0.2.2.1 v0.2.2.2.1 v0.2.2.2.2.1 v0.2.2.2.2.2.1 v0.2.2.2.2.2.2) s.heap.size (PI (fun u : CDV => wCD G a0 u.1 u.2.1 u.2.2.1 u.2.2.2.1 u.2.2.2.2.1 u.2.2.2.2.2.1 u.2.2.2.2.2.2) Q)) args s 0 0 (va_A (wCD G a0 v0.1 v0.2.1 v0.2.2.1 v0.2.2.2.1 v0.2.2.2.2.1 v0.2.2.2.2.2.1 v0.2.2.2.2.2.2) s.heap.size)) (wCD G a0 w0.1 w0.2.1 w0.2.2.1 w0.2.2.2.1 w0.2.2.2.2.1 w0.2.2.2.2.2.1 w0.2.2.2.2.2.2) 546 [(0, .ref a0.1), (4, .int x4), (8, .int x8), (10, .int x10), (11, .int x11)] [.int t2, .int t1, .ref a0.1] := by
    intro x4 x8 x10 x11 t1 t2 w0 hw
    refine v_callV (pc2 := 549) (As := [.int t1, .int t2]) (rest := []) S (c_X8_door l G a0 w0 t1 t2 _ hw) mf_X8_door u_484 u_485 u_486 0 8 rfl rfl rfl rfl ⟨rfl, rfl⟩ ⟨Nat.le_of_ble_eq_true rfl, Nat.le_of_ble_eq_true rfl⟩ ⟨Nat.le_of_ble_eq_true rfl, Nat.le_of_ble_eq_true rfl⟩ (Nat.le_of_ble_eq_true rfl) dL_act_546 (frW _) rfl (pi (fun r67 u68 hw => ?_))
    refine v_to (wCD G a0 w0.1 w0.2.1 w0.2.2.1 w0.2.2.2.1 w0.2.2.2.2.1 w0.2.2.2.2.2.1 w0.2.2.2.2.2.2) 549 [(0, .ref a0.1), (4, .int x4), (8, .int x8), (10, .int x10), (11, .int x11)] _ [.int r67] rfl rfl rfl rfl ?_
    refine v_istore (lv2 := [(0, .ref a0.1), (4, .int x4), (8, .int x8), (10, .int x10), (11, .int x11), (12, .int r67)]) (pc2 := 551) S dL_act_549 (by decide) [1, 2, 3, 4, 5, 0] rfl rfl ?_
    refine v_aload_n (pc2 := 552) S 0 dL_act_551 rfl rfl rfl ?_
    refine v_iload (pc2 := 554) S 1 dL_act_552 rfl rfl ?_
    refine v_iload (pc2 := 556) S 3 dL_act_554 rfl rfl ?_
    refine v_if_eq (pc2 := 559) (tgt := 563) S dL_act_556 (by decide) rfl (fun c69 => ?_) (fun c69 => ?_)
    · have hw := hw.1 c69
      refine v_iconst (v := 3) (pc2 := 564) S dL_act_563 (by decide) rfl ?_
      exact B564 x4 x8 x10 x11 r67 x4 (3 : Int32) w0 hw
    · have hw := hw.2 c69
      refine v_iconst (v := 4) (pc2 := 560) S dL_act_559 (by decide) rfl ?_
      refine v_goto (tgt := 564) S dL_act_560 (by decide) ?_
      exact B564 x4 x8 x10 x11 r67 x4 (4 : Int32) w0 hw
  have B522 : ∀ (x3 : Int32) (x4 : Int32) (x8 : Int32) (t0 : Int32) (w0 : CDV), wp_L_act_B522 x3 x4 x8 t0 w0 Q → V p l e { frames := 6, cells := 0, slots := 0, locals := 147 } s m args below meth c G (va_A (wCD G a0 v0.1 v0.2.1 v0.2.2.1 v0.2.2.2.1 v0.2.2.2.2.1 v0.2.2.2.2.2.1 v0.2.2.2.2.2.2) s.heap.size) 16 0 0 (MQ below (EQ G (wCD G a0 v0.1 v0.2.1 v0.2.2.1 v0.2.2.2.1 v0.2.2.2.2.1 v0.2.2.2.2.2.1 v0.2.2.2.2.2.2) s.heap.size (PI (fun u : CDV => wCD G a0 u.1 u.2.1 u.2.2.1 u.2.2.2.1 u.2.2.2.2.1 u.2.2.2.2.2.1 u.2.2.2.2.2.2) Q)) args s 0 0 (va_A (wCD G a0 v0.1 v0.2.1 v0.2.2.1 v0.2.2.2.1 v0.2.2.2.2.1 v0.2.2.2.2.2.1 v0.2.2.2.2.2.2) s.heap.size)) (wCD G a0 w0.1 w0.2.1 w0.2.2.1 w0.2.2.2.1 w0.2.2.2.2.1 w0.2.2.2.2.2.1 w0.2.2.2.2.2.2) 522 [(0, .ref a0.1), (3, .int x3), (4, .int x4), (8, .int x8)] [.int t0] := by
    intro x3 x4 x8 t0 w0 hw
    refine v_istore (lv2 := [(0, .ref a0.1), (3, .int x3), (4, .int x4), (8, .int x8), (10, .int t0)]) (pc2 := 524) S dL_act_522 (by decide) [1, 2, 3, 4, 0] rfl rfl ?_
    refine v_iload_n (pc2 := 525) S 1 dL_act_524 rfl rfl rfl ?_
    refine v_bipush (v := 20) (pc2 := 527) S dL_act_525 (by decide) rfl ?_
    refine v_idiv (pc2 := 528) S (by decide) dL_act_527 rfl ?_
    refine v_bipush (v := 11) (pc2 := 530) S dL_act_528 (by decide) rfl ?_
    refine v_irem (pc2 := 531) S (by decide) dL_act_530 rfl ?_
    refine v_nm (fun z65 ez65 => ?_)
    have hw := hw z65 ez65
    refine v_istore (lv2 := [(0, .ref a0.1), (3, .int x3), (4, .int x4), (8, .int x8), (10, .int t0), (11, .int z65)]) (pc2 := 533) S dL_act_531 (by decide) [1, 2, 3, 4, 5, 0] rfl rfl ?_
    refine v_aload_n (pc2 := 534) S 0 dL_act_533 rfl rfl rfl ?_
    refine v_iload (pc2 := 536) S 2 dL_act_534 rfl rfl ?_
    refine v_iload (pc2 := 538) S 4 dL_act_536 rfl rfl ?_
    refine v_if_eq (pc2 := 541) (tgt := 545) S dL_act_538 (by decide) rfl (fun c66 => ?_) (fun c66 => ?_)
    · have hw := hw.1 c66
      refine v_iconst (v := 4) (pc2 := 546) S dL_act_545 (by decide) rfl ?_
      refine v_lv [(0, .ref a0.1), (4, .int x4), (8, .int x8), (10, .int t0), (11, .int z65)] [0, 2, 3, 4, 5] rfl ?_
      exact B546 x4 x8 t0 z65 x4 (4 : Int32) w0 hw
    · have hw := hw.2 c66
      refine v_iconst (v := 3) (pc2 := 542) S dL_act_541 (by decide) rfl ?_
      refine v_goto (tgt := 546) S dL_act_542 (by decide) ?_
      refine v_lv [(0, .ref a0.1), (4, .int x4), (8, .int x8), (10, .int t0), (11, .int z65)] [0, 2, 3, 4, 5] rfl ?_
      exact B546 x4 x8 t0 z65 x4 (3 : Int32) w0 hw
  have B468 : ∀ (x5 : Int32) (x11 : Int32) (x12 : Int32) (x13 : Int32) (t0 : Int32) (t1 : Int32) (w0 : CDV), wp_L_act_B468 x5 x11 x12 x13 t0 t1 w0 Q → V p l e { frames := 6, cells := 0, slots := 0, locals := 147 } s m args below meth c G (va_A (wCD G a0 v0.1 v0.2.1 v0.2.2.1 v0.2.2.2.1 v0.2.2.2.2.1 v0.2.2.2.2.2.1 v0.2.2.2.2.2.2) s.heap.size) 16 0 0 (MQ below (EQ G (wCD G a0 v0.1 v0.2.1 v0.2.2.1 v0.2.2.2.1 v0.2.2.2.2.1 v0.2.2.2.2.2.1 v0.2.2.2.2.2.2) s.heap.size (PI (fun u : CDV => wCD G a0 u.1 u.2.1 u.2.2.1 u.2.2.2.1 u.2.2.2.2.1 u.2.2.2.2.2.1 u.2.2.2.2.2.2) Q)) args s 0 0 (va_A (wCD G a0 v0.1 v0.2.1 v0.2.2.1 v0.2.2.2.1 v0.2.2.2.2.1 v0.2.2.2.2.2.1 v0.2.2.2.2.2.2) s.heap.size)) (wCD G a0 w0.1 w0.2.1 w0.2.2.1 w0.2.2.2.1 w0.2.2.2.2.1 w0.2.2.2.2.2.1 w0.2.2.2.2.2.2) 468 [(0, .ref a0.1), (5, .int x5), (11, .int x11), (12, .int x12), (13, .int x13)] [.int t1, .int t0] := by
    intro x5 x11 x12 x13 t0 t1 w0 hw
    refine v_icmp_ne (pc2 := 471) (tgt := 499) S dL_act_468 (by decide) rfl (fun c111 => ?_) (fun c111 => ?_)
    · have hw := hw.1 c111
      refine v_bipush (v := -9) (pc2 := 501) S dL_act_499 (by decide) rfl ?_
      exact v_iret S ⟨(-9 : Int32), w0, rfl, rfl, hw⟩ dL_act_501
    · have hw := hw.2 c111
      refine v_aload_n (pc2 := 472) S 0 dL_act_471 rfl rfl rfl ?_
      refine v_iload (pc2 := 474) S 1 dL_act_472 rfl rfl ?_
      refine v_iconst (v := 3) (pc2 := 475) S dL_act_474 (by decide) rfl ?_
      refine v_callV (pc2 := 478) (As := [.int x5, .int (3 : Int32)]) (rest := []) S (c_X8_guest l G a0 w0 x5 (3 : Int32) _ hw) mf_X8_guest u_252 u_253 u_254 0 8 rfl rfl rfl rfl ⟨rfl, rfl⟩ ⟨Nat.le_of_ble_eq_true rfl, Nat.le_of_ble_eq_true rfl⟩ ⟨Nat.le_of_ble_eq_true rfl, Nat.le_of_ble_eq_true rfl⟩ (Nat.le_of_ble_eq_true rfl) dL_act_475 (frW _) rfl (pi (fun r112 u113 hw => ?_))
      refine v_to (wCD G a0 w0.1 w0.2.1 w0.2.2.1 w0.2.2.2.1 w0.2.2.2.2.1 w0.2.2.2.2.2.1 w0.2.2.2.2.2.2) 478 [(0, .ref a0.1), (5, .int x5), (11, .int x11), (12, .int x12), (13, .int x13)] _ [.int r112] rfl rfl rfl rfl ?_
      refine v_iload (pc2 := 480) S 2 dL_act_478 rfl rfl ?_
      refine v_iload (pc2 := 482) S 3 dL_act_480 rfl rfl ?_
      refine v_if_le (pc2 := 485) (tgt := 489) S dL_act_482 (by decide) rfl (fun c114 => ?_) (fun c114 => ?_)
      · have hw := hw.1 c114
        refine v_iconst (v := 1) (pc2 := 490) S dL_act_489 (by decide) rfl ?_
        refine v_iadd (pc2 := 491) S dL_act_490 rfl ?_
        refine v_icmp_ne (pc2 := 494) (tgt := 499) S dL_act_491 (by decide) rfl (fun c115 => ?_) (fun c115 => ?_)
        · have hw := hw.1 c115
          refine v_bipush (v := -9) (pc2 := 501) S dL_act_499 (by decide) rfl ?_
          exact v_iret S ⟨(-9 : Int32), w0, rfl, rfl, hw⟩ dL_act_501
        · have hw := hw.2 c115
          refine v_iload (pc2 := 496) S 4 dL_act_494 rfl rfl ?_
          refine v_goto (tgt := 501) S dL_act_496 (by decide) ?_
          exact v_iret S ⟨x13, w0, rfl, rfl, hw⟩ dL_act_501
      · have hw := hw.2 c114
        refine v_iconst (v := 0) (pc2 := 486) S dL_act_485 (by decide) rfl ?_
        refine v_goto (tgt := 490) S dL_act_486 (by decide) ?_
        refine v_iadd (pc2 := 491) S dL_act_490 rfl ?_
        refine v_icmp_ne (pc2 := 494) (tgt := 499) S dL_act_491 (by decide) rfl (fun c116 => ?_) (fun c116 => ?_)
        · have hw := hw.1 c116
          refine v_bipush (v := -9) (pc2 := 501) S dL_act_499 (by decide) rfl ?_
          exact v_iret S ⟨(-9 : Int32), w0, rfl, rfl, hw⟩ dL_act_501
        · have hw := hw.2 c116
          refine v_iload (pc2 := 496) S 4 dL_act_494 rfl rfl ?_
          refine v_goto (tgt := 501) S dL_act_496 (by decide) ?_
          exact v_iret S ⟨x13, w0, rfl, rfl, hw⟩ dL_act_501
  have B446 : ∀ (x5 : Int32) (x6 : Int32) (x10 : Int32) (x11 : Int32) (x12 : Int32) (x13 : Int32) (t0 : Int32) (t1 : Int32) (w0 : CDV), wp_L_act_B446 x5 x6 x10 x11 x12 x13 t0 t1 w0 Q → V p l e { frames := 6, cells := 0, slots := 0, locals := 147 } s m args below meth c G (va_A (wCD G a0 v0.1 v0.2.1 v0.2.2.1 v0.2.2.2.1 v0.2.2.2.2.1 v0.2.2.2.2.2.1 v0.2.2.2.2.2.2) s.heap.size) 16 0 0 (MQ below (EQ G (wCD G a0 v0.1 v0.2.1 v0.2.2.1 v0.2.2.2.1 v0.2.2.2.2.1 v0.2.2.2.2.2.1 v0.2.2.2.2.2.2) s.heap.size (PI (fun u : CDV => wCD G a0 u.1 u.2.1 u.2.2.1 u.2.2.2.1 u.2.2.2.2.1 u.2.2.2.2.2.1 u.2.2.2.2.2.2) Q)) args s 0 0 (va_A (wCD G a0 v0.1 v0.2.1 v0.2.2.1 v0.2.2.2.1 v0.2.2.2.2.1 v0.2.2.2.2.2.1 v0.2.2.2.2.2.2) s.heap.size)) (wCD G a0 w0.1 w0.2.1 w0.2.2.1 w0.2.2.2.1 w0.2.2.2.2.1 w0.2.2.2.2.2.1 w0.2.2.2.2.2.2) 446 [(0, .ref a0.1), (5, .int x5), (6, .int x6), (10, .int x10), (11, .int x11), (12, .int x12), (13, .int x13)] [.int t1, .int t0] := by
    intro x5 x6 x10 x11 x12 x13 t0 t1 w0 hw
    refine v_icmp_ne (pc2 := 449) (tgt := 499) S dL_act_446 (by decide) rfl (fun c107 => ?_) (fun c107 => ?_)
    · have hw := hw.1 c107
      refine v_bipush (v := -9) (pc2 := 501) S dL_act_499 (by decide) rfl ?_
      exact v_iret S ⟨(-9 : Int32), w0, rfl, rfl, hw⟩ dL_act_501
    · have hw := hw.2 c107
      refine v_aload_n (pc2 := 450) S 0 dL_act_449 rfl rfl rfl ?_
      refine v_iload (pc2 := 452) S 1 dL_act_450 rfl rfl ?_
      refine v_iconst (v := 0) (pc2 := 453) S dL_act_452 (by decide) rfl ?_
      refine v_callV (pc2 := 456) (As := [.int x5, .int (0 : Int32)]) (rest := []) S (c_X8_guest l G a0 w0 x5 (0 : Int32) _ hw) mf_X8_guest u_252 u_253 u_254 0 8 rfl rfl rfl rfl ⟨rfl, rfl⟩ ⟨Nat.le_of_ble_eq_true rfl, Nat.le_of_ble_eq_true rfl⟩ ⟨Nat.le_of_ble_eq_true rfl, Nat.le_of_ble_eq_true rfl⟩ (Nat.le_of_ble_eq_true rfl) dL_act_453 (frW _) rfl (pi (fun r108 u109 hw => ?_))
      refine v_to (wCD G a0 w0.1 w0.2.1 w0.2.2.1 w0.2.2.2.1 w0.2.2.2.2.1 w0.2.2.2.2.2.1 w0.2.2.2.2.2.2) 456 [(0, .ref a0.1), (5, .int x5), (6, .int x6), (10, .int x10), (11, .int x11), (12, .int x12), (13, .int x13)] _ [.int r108] rfl rfl rfl rfl ?_
      refine v_iload (pc2 := 458) S 5 dL_act_456 rfl rfl ?_
      refine v_if_le (pc2 := 461) (tgt := 466) S dL_act_458 (by decide) rfl (fun c110 => ?_) (fun c110 => ?_)
      · have hw := hw.1 c110
        refine v_iload (pc2 := 468) S 3 dL_act_466 rfl rfl ?_
        refine v_lv [(0, .ref a0.1), (5, .int x5), (11, .int x11), (12, .int x12), (13, .int x13)] [0, 1, 4, 5, 6] rfl ?_
        exact B468 x5 x11 x12 x13 r108 x10 w0 hw
      · have hw := hw.2 c110
        refine v_iload (pc2 := 463) S 2 dL_act_461 rfl rfl ?_
        refine v_goto (tgt := 468) S dL_act_463 (by decide) ?_
        refine v_lv [(0, .ref a0.1), (5, .int x5), (11, .int x11), (12, .int x12), (13, .int x13)] [0, 1, 4, 5, 6] rfl ?_
        exact B468 x5 x11 x12 x13 r108 x6 w0 hw
  have B417 : ∀ (x4 : Int32) (x5 : Int32) (x6 : Int32) (x10 : Int32) (x11 : Int32) (t0 : Int32) (w0 : CDV), wp_L_act_B417 x4 x5 x6 x10 x11 t0 w0 Q → V p l e { frames := 6, cells := 0, slots := 0, locals := 147 } s m args below meth c G (va_A (wCD G a0 v0.1 v0.2.1 v0.2.2.1 v0.2.2.2.1 v0.2.2.2.2.1 v0.2.2.2.2.2.1 v0.2.2.2.2.2.2) s.heap.size) 16 0 0 (MQ below (EQ G (wCD G a0 v0.1 v0.2.1 v0.2.2.1 v0.2.2.2.1 v0.2.2.2.2.1 v0.2.2.2.2.2.1 v0.2.2.2.2.2.2) s.heap.size (PI (fun u : CDV => wCD G a0 u.1 u.2.1 u.2.2.1 u.2.2.2.1 u.2.2.2.2.1 u.2.2.2.2.2.1 u.2.2.2.2.2.2) Q)) args s 0 0 (va_A (wCD G a0 v0.1 v0.2.1 v0.2.2.1 v0.2.2.2.1 v0.2.2.2.2.1 v0.2.2.2.2.2.1 v0.2.2.2.2.2.2) s.heap.size)) (wCD G a0 w0.1 w0.2.1 w0.2.2.1 w0.2.2.2.1 w0.2.2.2.2.1 w0.2.2.2.2.2.1 w0.2.2.2.2.2.2) 417 [(0, .ref a0.1), (4, .int x4), (5, .int x5), (6, .int x6), (10, .int x10), (11, .int x11)] [.int t0] := by
    intro x4 x5 x6 x10 x11 t0 w0 hw
    refine v_istore (lv2 := [(0, .ref a0.1), (4, .int x4), (5, .int x5), (6, .int x6), (10, .int x10), (11, .int x11), (12, .int t0)]) (pc2 := 419) S dL_act_417 (by decide) [1, 2, 3, 4, 5, 6, 0] rfl rfl ?_
    refine v_aload_n (pc2 := 420) S 0 dL_act_419 rfl rfl rfl ?_
    refine v_iload (pc2 := 422) S 2 dL_act_420 rfl rfl ?_
    refine v_iload (pc2 := 424) S 1 dL_act_422 rfl rfl ?_
    refine v_callV (pc2 := 427) (As := [.int x5, .int x4]) (rest := []) S (c_X8_walk l G a0 w0 x5 x4 _ hw) mf_X8_walk u_638 u_639 u_640 0 8 rfl rfl rfl rfl ⟨rfl, rfl⟩ ⟨Nat.le_of_ble_eq_true rfl, Nat.le_of_ble_eq_true rfl⟩ ⟨Nat.le_of_ble_eq_true rfl, Nat.le_of_ble_eq_true rfl⟩ (Nat.le_of_ble_eq_true rfl) dL_act_424 (frW _) rfl (pi (fun r104 u105 hw => ?_))
    refine v_to (wCD G a0 u105.1 u105.2.1 u105.2.2.1 u105.2.2.2.1 u105.2.2.2.2.1 u105.2.2.2.2.2.1 u105.2.2.2.2.2.2) 427 [(0, .ref a0.1), (4, .int x4), (5, .int x5), (6, .int x6), (10, .int x10), (11, .int x11), (12, .int t0)] _ [.int r104] rfl rfl rfl rfl ?_
    refine v_istore (lv2 := [(0, .ref a0.1), (4, .int x4), (5, .int x5), (6, .int x6), (10, .int x10), (11, .int x11), (12, .int t0), (13, .int r104)]) (pc2 := 429) S dL_act_427 (by decide) [1, 2, 3, 4, 5, 6, 7, 0] rfl rfl ?_
    refine v_iload (pc2 := 431) S 7 dL_act_429 rfl rfl ?_
    refine v_iload (pc2 := 433) S 6 dL_act_431 rfl rfl ?_
    refine v_if_le (pc2 := 436) (tgt := 441) S dL_act_433 (by decide) rfl (fun c106 => ?_) (fun c106 => ?_)
    · have hw := hw.1 c106
      refine v_bipush (v := 10) (pc2 := 443) S dL_act_441 (by decide) rfl ?_
      refine v_iload (pc2 := 445) S 4 dL_act_443 rfl rfl ?_
      refine v_iadd (pc2 := 446) S dL_act_445 rfl ?_
      refine v_lv [(0, .ref a0.1), (5, .int x5), (6, .int x6), (10, .int x10), (11, .int x11), (12, .int t0), (13, .int r104)] [0, 2, 3, 4, 5, 6, 7] rfl ?_
      exact B446 x5 x6 x10 x11 t0 r104 r104 ((10 : Int32) + x10) u105 hw
    · have hw := hw.2 c106
      refine v_iload (pc2 := 438) S 6 dL_act_436 rfl rfl ?_
      refine v_goto (tgt := 446) S dL_act_438 (by decide) ?_
      refine v_lv [(0, .ref a0.1), (5, .int x5), (6, .int x6), (10, .int x10), (11, .int x11), (12, .int t0), (13, .int r104)] [0, 2, 3, 4, 5, 6, 7] rfl ?_
      exact B446 x5 x6 x10 x11 t0 r104 r104 t0 u105 hw
  have B327 : ∀ (x4 : Int32) (x9 : Int32) (x11 : Int32) (x12 : Int32) (t0 : Int32) (t1 : Int32) (w0 : CDV), wp_L_act_B327 x4 x9 x11 x12 t0 t1 w0 Q → V p l e { frames := 6, cells := 0, slots := 0, locals := 147 } s m args below meth c G (va_A (wCD G a0 v0.1 v0.2.1 v0.2.2.1 v0.2.2.2.1 v0.2.2.2.2.1 v0.2.2.2.2.2.1 v0.2.2.2.2.2.2) s.heap.size) 16 0 0 (MQ below (EQ G (wCD G a0 v0.1 v0.2.1 v0.2.2.1 v0.2.2.2.1 v0.2.2.2.2.1 v0.2.2.2.2.2.1 v0.2.2.2.2.2.2) s.heap.size (PI (fun u : CDV => wCD G a0 u.1 u.2.1 u.2.2.1 u.2.2.2.1 u.2.2.2.2.1 u.2.2.2.2.2.1 u.2.2.2.2.2.2) Q)) args s 0 0 (va_A (wCD G a0 v0.1 v0.2.1 v0.2.2.1 v0.2.2.2.1 v0.2.2.2.2.1 v0.2.2.2.2.2.1 v0.2.2.2.2.2.2) s.heap.size)) (wCD G a0 w0.1 w0.2.1 w0.2.2.1 w0.2.2.2.1 w0.2.2.2.2.1 w0.2.2.2.2.2.1 w0.2.2.2.2.2.2) 327 [(0, .ref a0.1), (4, .int x4), (9, .int x9), (11, .int x11), (12, .int x12)] [.int t1, .int t0] := by
    intro x4 x9 x11 x12 t0 t1 w0 hw
    refine v_icmp_ne (pc2 := 330) (tgt := 360) S dL_act_327 (by decide) rfl (fun c125 => ?_) (fun c125 => ?_)
    · have hw := hw.1 c125
      refine v_bipush (v := -9) (pc2 := 362) S dL_act_360 (by decide) rfl ?_
      exact v_iret S ⟨(-9 : Int32), w0, rfl, rfl, hw⟩ dL_act_362
    · have hw := hw.2 c125
      refine v_aload_n (pc2 := 331) S 0 dL_act_330 rfl rfl rfl ?_
      refine v_iconst (v := 0) (pc2 := 332) S dL_act_331 (by decide) rfl ?_
      refine v_callV (pc2 := 335) (As := [.int (0 : Int32)]) (rest := []) S (c_X8_count l G a0 w0 (0 : Int32) _ hw) mf_X8_count u_398 u_399 u_400 0 8 rfl rfl rfl rfl ⟨rfl, rfl⟩ ⟨Nat.le_of_ble_eq_true rfl, Nat.le_of_ble_eq_true rfl⟩ ⟨Nat.le_of_ble_eq_true rfl, Nat.le_of_ble_eq_true rfl⟩ (Nat.le_of_ble_eq_true rfl) dL_act_332 (frW _) rfl (pi (fun r126 u127 hw => ?_))
      refine v_to (wCD G a0 w0.1 w0.2.1 w0.2.2.1 w0.2.2.2.1 w0.2.2.2.2.1 w0.2.2.2.2.2.1 w0.2.2.2.2.2.2) 335 [(0, .ref a0.1), (4, .int x4), (9, .int x9), (11, .int x11), (12, .int x12)] _ [.int r126] rfl rfl rfl rfl ?_
      refine v_iload (pc2 := 337) S 3 dL_act_335 rfl rfl ?_
      refine v_if_le (pc2 := 340) (tgt := 345) S dL_act_337 (by decide) rfl (fun c128 => ?_) (fun c128 => ?_)
      · have hw := hw.1 c128
        refine v_iload (pc2 := 347) S 2 dL_act_345 rfl rfl ?_
        refine v_iconst (v := 1) (pc2 := 348) S dL_act_347 (by decide) rfl ?_
        refine v_iload (pc2 := 350) S 1 dL_act_348 rfl rfl ?_
        refine v_ishl (pc2 := 351) S dL_act_350 rfl ?_
        refine v_isub (pc2 := 352) S dL_act_351 rfl ?_
        refine v_icmp_ne (pc2 := 355) (tgt := 360) S dL_act_352 (by decide) rfl (fun c129 => ?_) (fun c129 => ?_)
        · have hw := hw.1 c129
          refine v_bipush (v := -9) (pc2 := 362) S dL_act_360 (by decide) rfl ?_
          exact v_iret S ⟨(-9 : Int32), w0, rfl, rfl, hw⟩ dL_act_362
        · have hw := hw.2 c129
          refine v_iload (pc2 := 357) S 4 dL_act_355 rfl rfl ?_
          refine v_goto (tgt := 362) S dL_act_357 (by decide) ?_
          exact v_iret S ⟨x12, w0, rfl, rfl, hw⟩ dL_act_362
      · have hw := hw.2 c128
        refine v_iload (pc2 := 342) S 2 dL_act_340 rfl rfl ?_
        refine v_goto (tgt := 352) S dL_act_342 (by decide) ?_
        refine v_icmp_ne (pc2 := 355) (tgt := 360) S dL_act_352 (by decide) rfl (fun c130 => ?_) (fun c130 => ?_)
        · have hw := hw.1 c130
          refine v_bipush (v := -9) (pc2 := 362) S dL_act_360 (by decide) rfl ?_
          exact v_iret S ⟨(-9 : Int32), w0, rfl, rfl, hw⟩ dL_act_362
        · have hw := hw.2 c130
          refine v_iload (pc2 := 357) S 4 dL_act_355 rfl rfl ?_
          refine v_goto (tgt := 362) S dL_act_357 (by decide) ?_
          exact v_iret S ⟨x12, w0, rfl, rfl, hw⟩ dL_act_362
  have B311 : ∀ (x4 : Int32) (x9 : Int32) (x11 : Int32) (t0 : Int32) (w0 : CDV), wp_L_act_B311 x4 x9 x11 t0 w0 Q → V p l e { frames := 6, cells := 0, slots := 0, locals := 147 } s m args below meth c G (va_A (wCD G a0 v0.1 v0.2.1 v0.2.2.1 v0.2.2.2.1 v0.2.2.2.2.1 v0.2.2.2.2.2.1 v0.2.2.2.2.2.2) s.heap.size) 16 0 0 (MQ below (EQ G (wCD G a0 v0.1 v0.2.1 v0.2.2.1 v0.2.2.2.1 v0.2.2.2.2.1 v0.2.2.2.2.2.1 v0.2.2.2.2.2.2) s.heap.size (PI (fun u : CDV => wCD G a0 u.1 u.2.1 u.2.2.1 u.2.2.2.1 u.2.2.2.2.1 u.2.2.2.2.2.1 u.2.2.2.2.2.2) Q)) args s 0 0 (va_A (wCD G a0 v0.1 v0.2.1 v0.2.2.1 v0.2.2.2.1 v0.2.2.2.2.1 v0.2.2.2.2.2.1 v0.2.2.2.2.2.2) s.heap.size)) (wCD G a0 w0.1 w0.2.1 w0.2.2.1 w0.2.2.2.1 w0.2.2.2.2.1 w0.2.2.2.2.2.1 w0.2.2.2.2.2.2) 311 [(0, .ref a0.1), (4, .int x4), (9, .int x9), (11, .int x11)] [.int t0] := by
    intro x4 x9 x11 t0 w0 hw
    refine v_istore (lv2 := [(0, .ref a0.1), (4, .int x4), (9, .int x9), (11, .int x11), (12, .int t0)]) (pc2 := 313) S dL_act_311 (by decide) [1, 2, 3, 4, 0] rfl rfl ?_
    refine v_iload (pc2 := 315) S 4 dL_act_313 rfl rfl ?_
    refine v_iload (pc2 := 317) S 3 dL_act_315 rfl rfl ?_
    refine v_if_le (pc2 := 320) (tgt := 325) S dL_act_317 (by decide) rfl (fun c124 => ?_) (fun c124 => ?_)
    · have hw := hw.1 c124
      refine v_bipush (v := 10) (pc2 := 327) S dL_act_325 (by decide) rfl ?_
      exact B327 x4 x9 x11 t0 t0 (10 : Int32) w0 hw
    · have hw := hw.2 c124
      refine v_iload (pc2 := 322) S 3 dL_act_320 rfl rfl ?_
      refine v_goto (tgt := 327) S dL_act_322 (by decide) ?_
      exact B327 x4 x9 x11 t0 t0 x11 w0 hw
  have B287 : ∀ (x4 : Int32) (x5 : Int32) (x9 : Int32) (x10 : Int32) (t0 : Int32) (w0 : CDV), wp_L_act_B287 x4 x5 x9 x10 t0 w0 Q → V p l e { frames := 6, cells := 0, slots := 0, locals := 147 } s m args below meth c G (va_A (wCD G a0 v0.1 v0.2.1 v0.2.2.1 v0.2.2.2.1 v0.2.2.2.2.1 v0.2.2.2.2.2.1 v0.2.2.2.2.2.2) s.heap.size) 16 0 0 (MQ below (EQ G (wCD G a0 v0.1 v0.2.1 v0.2.2.1 v0.2.2.2.1 v0.2.2.2.2.1 v0.2.2.2.2.2.1 v0.2.2.2.2.2.2) s.heap.size (PI (fun u : CDV => wCD G a0 u.1 u.2.1 u.2.2.1 u.2.2.2.1 u.2.2.2.2.1 u.2.2.2.2.2.1 u.2.2.2.2.2.2) Q)) args s 0 0 (va_A (wCD G a0 v0.1 v0.2.1 v0.2.2.1 v0.2.2.2.1 v0.2.2.2.2.1 v0.2.2.2.2.2.1 v0.2.2.2.2.2.2) s.heap.size)) (wCD G a0 w0.1 w0.2.1 w0.2.2.1 w0.2.2.2.1 w0.2.2.2.2.1 w0.2.2.2.2.2.1 w0.2.2.2.2.2.2) 287 [(0, .ref a0.1), (4, .int x4), (5, .int x5), (9, .int x9), (10, .int x10)] [.int t0] := by
    intro x4 x5 x9 x10 t0 w0 hw
    refine v_istore (lv2 := [(0, .ref a0.1), (4, .int x4), (5, .int x5), (9, .int x9), (10, .int x10), (11, .int t0)]) (pc2 := 289) S dL_act_287 (by decide) [1, 2, 3, 4, 5, 0] rfl rfl ?_
    refine v_iload (pc2 := 291) S 4 dL_act_289 rfl rfl ?_
    refine v_if_eq (pc2 := 294) (tgt := 303) S dL_act_291 (by decide) rfl (fun c121 => ?_) (fun c121 => ?_)
    · have hw := hw.1 c121
      refine v_aload_n (pc2 := 304) S 0 dL_act_303 rfl rfl rfl ?_
      refine v_iload (pc2 := 306) S 2 dL_act_304 rfl rfl ?_
      refine v_iload (pc2 := 308) S 1 dL_act_306 rfl rfl ?_
      refine v_callV (pc2 := 311) (As := [.int x5, .int x4]) (rest := []) S (c_X8_guestShuts l G a0 w0 x5 x4 _ hw) mf_X8_guestShuts u_626 u_627 u_628 0 8 rfl rfl rfl rfl ⟨rfl, rfl⟩ ⟨Nat.le_of_ble_eq_true rfl, Nat.le_of_ble_eq_true rfl⟩ ⟨Nat.le_of_ble_eq_true rfl, Nat.le_of_ble_eq_true rfl⟩ (Nat.le_of_ble_eq_true rfl) dL_act_308 (frW _) rfl (pi (fun r122 u123 hw => ?_))
      refine v_to (wCD G a0 u123.1 u123.2.1 u123.2.2.1 u123.2.2.2.1 u123.2.2.2.2.1 u123.2.2.2.2.2.1 u123.2.2.2.2.2.2) 311 [(0, .ref a0.1), (4, .int x4), (5, .int x5), (9, .int x9), (10, .int x10), (11, .int t0)] _ [.int r122] rfl rfl rfl rfl ?_
      refine v_lv [(0, .ref a0.1), (4, .int x4), (9, .int x9), (11, .int t0)] [0, 1, 3, 5] rfl ?_
      exact B311 x4 x9 t0 r122 u123 hw
    · have hw := hw.2 c121
      refine v_aload_n (pc2 := 295) S 0 dL_act_294 rfl rfl rfl ?_
      refine v_iload (pc2 := 297) S 1 dL_act_295 rfl rfl ?_
      refine v_callV (pc2 := 300) (As := [.int x4]) (rest := []) S (c_X8_shut l G a0 w0 x4 _ hw) mf_X8_shut u_572 u_573 u_574 0 8 rfl rfl rfl rfl ⟨rfl, rfl⟩ ⟨Nat.le_of_ble_eq_true rfl, Nat.le_of_ble_eq_true rfl⟩ ⟨Nat.le_of_ble_eq_true rfl, Nat.le_of_ble_eq_true rfl⟩ (Nat.le_of_ble_eq_true rfl) dL_act_297 (frW _) rfl (pi (fun r131 u132 hw => ?_))
      refine v_to (wCD G a0 u132.1 u132.2.1 u132.2.2.1 u132.2.2.2.1 u132.2.2.2.2.1 u132.2.2.2.2.2.1 u132.2.2.2.2.2.2) 300 [(0, .ref a0.1), (4, .int x4), (5, .int x5), (9, .int x9), (10, .int x10), (11, .int t0)] _ [.int r131] rfl rfl rfl rfl ?_
      refine v_goto (tgt := 311) S dL_act_300 (by decide) ?_
      refine v_lv [(0, .ref a0.1), (4, .int x4), (9, .int x9), (11, .int t0)] [0, 1, 3, 5] rfl ?_
      exact B311 x4 x9 t0 r131 u132 hw
  have B277 : ∀ (x4 : Int32) (x5 : Int32) (x8 : Int32) (x9 : Int32) (x10 : Int32) (w0 : CDV), wp_L_act_B277 x4 x5 x8 x9 x10 w0 Q → V p l e { frames := 6, cells := 0, slots := 0, locals := 147 } s m args below meth c G (va_A (wCD G a0 v0.1 v0.2.1 v0.2.2.1 v0.2.2.2.1 v0.2.2.2.2.1 v0.2.2.2.2.2.1 v0.2.2.2.2.2.2) s.heap.size) 16 0 0 (MQ below (EQ G (wCD G a0 v0.1 v0.2.1 v0.2.2.1 v0.2.2.2.1 v0.2.2.2.2.1 v0.2.2.2.2.2.1 v0.2.2.2.2.2.2) s.heap.size (PI (fun u : CDV => wCD G a0 u.1 u.2.1 u.2.2.1 u.2.2.2.1 u.2.2.2.2.1 u.2.2.2.2.2.1 u.2.2.2.2.2.2) Q)) args s 0 0 (va_A (wCD G a0 v0.1 v0.2.1 v0.2.2.1 v0.2.2.2.1 v0.2.2.2.2.1 v0.2.2.2.2.2.1 v0.2.2.2.2.2.2) s.heap.size)) (wCD G a0 w0.1 w0.2.1 w0.2.2.1 w0.2.2.2.1 w0.2.2.2.2.1 w0.2.2.2.2.2.1 w0.2.2.2.2.2.2) 277 [(0, .ref a0.1), (4, .int x4), (5, .int x5), (8, .int x8), (9, .int x9), (10, .int x10)] [] := by
    intro x4 x5 x8 x9 x10 w0 hw
    refine v_iload (pc2 := 279) S 3 dL_act_277 rfl rfl ?_
    refine v_if_eq (pc2 := 282) (tgt := 286) S dL_act_279 (by decide) rfl (fun c120 => ?_) (fun c120 => ?_)
    · have hw := hw.1 c120
      refine v_iconst (v := 3) (pc2 := 287) S dL_act_286 (by decide) rfl ?_
      refine v_lv [(0, .ref a0.1), (4, .int x4), (5, .int x5), (9, .int x9), (10, .int x10)] [0, 1, 2, 4, 5] rfl ?_
      exact B287 x4 x5 x9 x10 (3 : Int32) w0 hw
    · have hw := hw.2 c120
      refine v_iconst (v := 0) (pc2 := 283) S dL_act_282 (by decide) rfl ?_
      refine v_goto (tgt := 287) S dL_act_283 (by decide) ?_
      refine v_lv [(0, .ref a0.1), (4, .int x4), (5, .int x5), (9, .int x9), (10, .int x10)] [0, 1, 2, 4, 5] rfl ?_
      exact B287 x4 x5 x9 x10 (0 : Int32) w0 hw
  have B261 : ∀ (x4 : Int32) (x5 : Int32) (x7 : Int32) (x8 : Int32) (x9 : Int32) (t0 : Int32) (w0 : CDV), wp_L_act_B261 x4 x5 x7 x8 x9 t0 w0 Q → V p l e { frames := 6, cells := 0, slots := 0, locals := 147 } s m args below meth c G (va_A (wCD G a0 v0.1 v0.2.1 v0.2.2.1 v0.2.2.2.1 v0.2.2.2.2.1 v0.2.2.2.2.2.1 v0.2.2.2.2.2.2) s.heap.size) 16 0 0 (MQ below (EQ G (wCD G a0 v0.1 v0.2.1 v0.2.2.1 v0.2.2.2.1 v0.2.2.2.2.1 v0.2.2.2.2.2.1 v0.2.2.2.2.2.2) s.heap.size (PI (fun u : CDV => wCD G a0 u.1 u.2.1 u.2.2.1 u.2.2.2.1 u.2.2.2.2.1 u.2.2.2.2.2.1 u.2.2.2.2.2.2) Q)) args s 0 0 (va_A (wCD G a0 v0.1 v0.2.1 v0.2.2.1 v0.2.2.2.1 v0.2.2.2.2.1 v0.2.2.2.2.2.1 v0.2.2.2.2.2.2) s.heap.size)) (wCD G a0 w0.1 w0.2.1 w0.2.2.1 w0.2.2.2.1 w0.2.2.2.2.1 w0.2.2.2.2.2.1 w0.2.2.2.2.2.2) 261 [(0, .ref a0.1), (4, .int x4), (5, .int x5), (7, .int x7), (8, .int x8), (9, .int x9)] [.int t0] := by
    intro x4 x5 x7 x8 x9 t0 w0 hw
    refine v_istore (lv2 := [(0, .ref a0.1), (4, .int x4), (5, .int x5), (7, .int x7), (8, .int x8), (9, .int x9), (10, .int t0)]) (pc2 := 263) S dL_act_261 (by decide) [1, 2, 3, 4, 5, 6, 0] rfl rfl ?_
    refine v_iload (pc2 := 265) S 6 dL_act_263 rfl rfl ?_
    refine v_if_ne (pc2 := 268) (tgt := 277) S dL_act_265 (by decide) rfl (fun c119 => ?_) (fun c119 => ?_)
    · have hw := hw.1 c119
      refine v_lv [(0, .ref a0.1), (4, .int x4), (5, .int x5), (8, .int x8), (9, .int x9), (10, .int t0)] [0, 1, 2, 4, 5, 6] rfl ?_
      exact B277 x4 x5 x8 x9 t0 w0 hw
    · have hw := hw.2 c119
      refine v_iload (pc2 := 270) S 3 dL_act_268 rfl rfl ?_
      refine v_if_ne (pc2 := 273) (tgt := 277) S dL_act_270 (by decide) rfl (fun c133 => ?_) (fun c133 => ?_)
      · have hw := hw.1 c133
        refine v_lv [(0, .ref a0.1), (4, .int x4), (5, .int x5), (8, .int x8), (9, .int x9), (10, .int t0)] [0, 1, 2, 4, 5, 6] rfl ?_
        exact B277 x4 x5 x8 x9 t0 w0 hw
      · have hw := hw.2 c133
        refine v_iconst (v := 5) (pc2 := 274) S dL_act_273 (by decide) rfl ?_
        refine v_goto (tgt := 287) S dL_act_274 (by decide) ?_
        refine v_lv [(0, .ref a0.1), (4, .int x4), (5, .int x5), (9, .int x9), (10, .int t0)] [0, 1, 2, 5, 6] rfl ?_
        exact B287 x4 x5 x9 t0 (5 : Int32) w0 hw
  have B213 : ∀ (x9 : Int32) (x11 : Int32) (x12 : Int32) (x13 : Int32) (t0 : Int32) (t1 : Int32) (w0 : CDV), wp_L_act_B213 x9 x11 x12 x13 t0 t1 w0 Q → V p l e { frames := 6, cells := 0, slots := 0, locals := 147 } s m args below meth c G (va_A (wCD G a0 v0.1 v0.2.1 v0.2.2.1 v0.2.2.2.1 v0.2.2.2.2.1 v0.2.2.2.2.2.1 v0.2.2.2.2.2.2) s.heap.size) 16 0 0 (MQ below (EQ G (wCD G a0 v0.1 v0.2.1 v0.2.2.1 v0.2.2.2.1 v0.2.2.2.2.1 v0.2.2.2.2.2.1 v0.2.2.2.2.2.2) s.heap.size (PI (fun u : CDV => wCD G a0 u.1 u.2.1 u.2.2.1 u.2.2.2.1 u.2.2.2.2.1 u.2.2.2.2.2.1 u.2.2.2.2.2.2) Q)) args s 0 0 (va_A (wCD G a0 v0.1 v0.2.1 v0.2.2.1 v0.2.2.2.1 v0.2.2.2.2.1 v0.2.2.2.2.2.1 v0.2.2.2.2.2.2) s.heap.size)) (wCD G a0 w0.1 w0.2.1 w0.2.2.1 w0.2.2.2.1 w0.2.2.2.2.1 w0.2.2.2.2.2.1 w0.2.2.2.2.2.2) 213 [(0, .ref a0.1), (9, .int x9), (11, .int x11), (12, .int x12), (13, .int x13)] [.int t1, .int t0] := by
    intro x9 x11 x12 x13 t0 t1 w0 hw
    refine v_icmp_ne (pc2 := 216) (tgt := 241) S dL_act_213 (by decide) rfl (fun c149 => ?_) (fun c149 => ?_)
    · have hw := hw.1 c149
      refine v_bipush (v := -9) (pc2 := 243) S dL_act_241 (by decide) rfl ?_
      exact v_iret S ⟨(-9 : Int32), w0, rfl, rfl, hw⟩ dL_act_243
    · have hw := hw.2 c149
      refine v_aload_n (pc2 := 217) S 0 dL_act_216 rfl rfl rfl ?_
      refine v_iconst (v := 0) (pc2 := 218) S dL_act_217 (by decide) rfl ?_
      refine v_callV (pc2 := 221) (As := [.int (0 : Int32)]) (rest := []) S (c_X8_count l G a0 w0 (0 : Int32) _ hw) mf_X8_count u_398 u_399 u_400 0 8 rfl rfl rfl rfl ⟨rfl, rfl⟩ ⟨Nat.le_of_ble_eq_true rfl, Nat.le_of_ble_eq_true rfl⟩ ⟨Nat.le_of_ble_eq_true rfl, Nat.le_of_ble_eq_true rfl⟩ (Nat.le_of_ble_eq_true rfl) dL_act_218 (frW _) rfl (pi (fun r150 u151 hw => ?_))
      refine v_to (wCD G a0 w0.1 w0.2.1 w0.2.2.1 w0.2.2.2.1 w0.2.2.2.2.1 w0.2.2.2.2.2.1 w0.2.2.2.2.2.2) 221 [(0, .ref a0.1), (9, .int x9), (11, .int x11), (12, .int x12), (13, .int x13)] _ [.int r150] rfl rfl rfl rfl ?_
      refine v_iload (pc2 := 223) S 2 dL_act_221 rfl rfl ?_
      refine v_if_le (pc2 := 226) (tgt := 231) S dL_act_223 (by decide) rfl (fun c152 => ?_) (fun c152 => ?_)
      · have hw := hw.1 c152
        refine v_iload (pc2 := 233) S 3 dL_act_231 rfl rfl ?_
        refine v_icmp_ne (pc2 := 236) (tgt := 241) S dL_act_233 (by decide) rfl (fun c153 => ?_) (fun c153 => ?_)
        · have hw := hw.1 c153
          refine v_bipush (v := -9) (pc2 := 243) S dL_act_241 (by decide) rfl ?_
          exact v_iret S ⟨(-9 : Int32), w0, rfl, rfl, hw⟩ dL_act_243
        · have hw := hw.2 c153
          refine v_iload (pc2 := 238) S 4 dL_act_236 rfl rfl ?_
          refine v_goto (tgt := 243) S dL_act_238 (by decide) ?_
          exact v_iret S ⟨x13, w0, rfl, rfl, hw⟩ dL_act_243
      · have hw := hw.2 c152
        refine v_iload (pc2 := 228) S 1 dL_act_226 rfl rfl ?_
        refine v_goto (tgt := 233) S dL_act_228 (by decide) ?_
        refine v_icmp_ne (pc2 := 236) (tgt := 241) S dL_act_233 (by decide) rfl (fun c154 => ?_) (fun c154 => ?_)
        · have hw := hw.1 c154
          refine v_bipush (v := -9) (pc2 := 243) S dL_act_241 (by decide) rfl ?_
          exact v_iret S ⟨(-9 : Int32), w0, rfl, rfl, hw⟩ dL_act_243
        · have hw := hw.2 c154
          refine v_iload (pc2 := 238) S 4 dL_act_236 rfl rfl ?_
          refine v_goto (tgt := 243) S dL_act_238 (by decide) ?_
          exact v_iret S ⟨x13, w0, rfl, rfl, hw⟩ dL_act_243
  have B185 : ∀ (x9 : Int32) (x11 : Int32) (x12 : Int32) (t0 : Int32) (w0 : CDV), wp_L_act_B185 x9 x11 x12 t0 w0 Q → V p l e { frames := 6, cells := 0, slots := 0, locals := 147 } s m args below meth c G (va_A (wCD G a0 v0.1 v0.2.1 v0.2.2.1 v0.2.2.2.1 v0.2.2.2.2.1 v0.2.2.2.2.2.1 v0.2.2.2.2.2.2) s.heap.size) 16 0 0 (MQ below (EQ G (wCD G a0 v0.1 v0.2.1 v0.2.2.1 v0.2.2.2.1 v0.2.2.2.2.1 v0.2.2.2.2.2.1 v0.2.2.2.2.2.2) s.heap.size (PI (fun u : CDV => wCD G a0 u.1 u.2.1 u.2.2.1 u.2.2.2.1 u.2.2.2.2.1 u.2.2.2.2.2.1 u.2.2.2.2.2.2) Q)) args s 0 0 (va_A (wCD G a0 v0.1 v0.2.1 v0.2.2.1 v0.2.2.2.1 v0.2.2.2.2.1 v0.2.2.2.2.2.1 v0.2.2.2.2.2.2) s.heap.size)) (wCD G a0 w0.1 w0.2.1 w0.2.2.1 w0.2.2.2.1 w0.2.2.2.2.1 w0.2.2.2.2.2.1 w0.2.2.2.2.2.2) 185 [(0, .ref a0.1), (9, .int x9), (11, .int x11), (12, .int x12)] [.int t0] := by
    intro x9 x11 x12 t0 w0 hw
    refine v_istore (lv2 := [(0, .ref a0.1), (9, .int x9), (11, .int x11), (12, .int x12), (13, .int t0)]) (pc2 := 187) S dL_act_185 (by decide) [1, 2, 3, 4, 0] rfl rfl ?_
    refine v_iload (pc2 := 189) S 4 dL_act_187 rfl rfl ?_
    refine v_iload (pc2 := 191) S 2 dL_act_189 rfl rfl ?_
    refine v_if_le (pc2 := 194) (tgt := 199) S dL_act_191 (by decide) rfl (fun c144 => ?_) (fun c144 => ?_)
    · have hw := hw.1 c144
      refine v_bipush (v := 11) (pc2 := 201) S dL_act_199 (by decide) rfl ?_
      refine v_iload (pc2 := 203) S 1 dL_act_201 rfl rfl ?_
      refine v_callS (pc2 := 206) (As := [.int x9]) (rest := [.int (11 : Int32), .int t0]) S (c_L_size l G x9 _ hw) mf_L_size u_509 u_510 rfl rfl ⟨rfl, rfl⟩ ⟨Nat.le_of_ble_eq_true rfl, Nat.le_of_ble_eq_true rfl⟩ ⟨Nat.le_of_ble_eq_true rfl, Nat.le_of_ble_eq_true rfl⟩ (Nat.le_of_ble_eq_true rfl) dL_act_203 (frM [] [] _) rfl (pi (fun r145 u146 hw => ?_))
      refine v_to (wCD G a0 w0.1 w0.2.1 w0.2.2.1 w0.2.2.2.1 w0.2.2.2.2.1 w0.2.2.2.2.2.1 w0.2.2.2.2.2.2) 206 [(0, .ref a0.1), (9, .int x9), (11, .int x11), (12, .int x12), (13, .int t0)] _ [.int r145, .int (11 : Int32), .int t0] rfl rfl rfl rfl ?_
      refine v_iadd (pc2 := 207) S dL_act_206 rfl ?_
      refine v_iload (pc2 := 209) S 3 dL_act_207 rfl rfl ?_
      refine v_callS (pc2 := 212) (As := [.int x12]) (rest := [.int ((11 : Int32) + r145), .int t0]) S (c_L_size l G x12 _ hw) mf_L_size u_509 u_510 rfl rfl ⟨rfl, rfl⟩ ⟨Nat.le_of_ble_eq_true rfl, Nat.le_of_ble_eq_true rfl⟩ ⟨Nat.le_of_ble_eq_true rfl, Nat.le_of_ble_eq_true rfl⟩ (Nat.le_of_ble_eq_true rfl) dL_act_209 (frM [] [] _) rfl (pi (fun r147 u148 hw => ?_))
      refine v_to (wCD G a0 w0.1 w0.2.1 w0.2.2.1 w0.2.2.2.1 w0.2.2.2.2.1 w0.2.2.2.2.2.1 w0.2.2.2.2.2.2) 212 [(0, .ref a0.1), (9, .int x9), (11, .int x11), (12, .int x12), (13, .int t0)] _ [.int r147, .int ((11 : Int32) + r145), .int t0] rfl rfl rfl rfl ?_
      refine v_isub (pc2 := 213) S dL_act_212 rfl ?_
      exact B213 x9 x11 x12 t0 t0 (((11 : Int32) + r145) - r147) w0 hw
    · have hw := hw.2 c144
      refine v_iload (pc2 := 196) S 2 dL_act_194 rfl rfl ?_
      refine v_goto (tgt := 213) S dL_act_196 (by decide) ?_
      exact B213 x9 x11 x12 t0 t0 x11 w0 hw
  have B152 : ∀ (x4 : Int32) (x5 : Int32) (x9 : Int32) (x10 : Int32) (t0 : Int32) (w0 : CDV), wp_L_act_B152 x4 x5 x9 x10 t0 w0 Q → V p l e { frames := 6, cells := 0, slots := 0, locals := 147 } s m args below meth c G (va_A (wCD G a0 v0.1 v0.2.1 v0.2.2.1 v0.2.2.2.1 v0.2.2.2.2.1 v0.2.2.2.2.2.1 v0.2.2.2.2.2.2) s.heap.size) 16 0 0 (MQ below (EQ G (wCD G a0 v0.1 v0.2.1 v0.2.2.1 v0.2.2.2.1 v0.2.2.2.2.1 v0.2.2.2.2.2.1 v0.2.2.2.2.2.2) s.heap.size (PI (fun u : CDV => wCD G a0 u.1 u.2.1 u.2.2.1 u.2.2.2.1 u.2.2.2.2.1 u.2.2.2.2.2.1 u.2.2.2.2.2.2) Q)) args s 0 0 (va_A (wCD G a0 v0.1 v0.2.1 v0.2.2.1 v0.2.2.2.1 v0.2.2.2.2.1 v0.2.2.2.2.2.1 v0.2.2.2.2.2.2) s.heap.size)) (wCD G a0 w0.1 w0.2.1 w0.2.2.1 w0.2.2.2.1 w0.2.2.2.2.1 w0.2.2.2.2.2.1 w0.2.2.2.2.2.2) 152 [(0, .ref a0.1), (4, .int x4), (5, .int x5), (9, .int x9), (10, .int x10)] [.int t0] := by
    intro x4 x5 x9 x10 t0 w0 hw
    refine v_istore (lv2 := [(0, .ref a0.1), (4, .int x4), (5, .int x5), (9, .int x9), (10, .int x10), (11, .int t0)]) (pc2 := 154) S dL_act_152 (by decide) [1, 2, 3, 4, 5, 0] rfl rfl ?_
    refine v_aload_n (pc2 := 155) S 0 dL_act_154 rfl rfl rfl ?_
    refine v_iload (pc2 := 157) S 1 dL_act_155 rfl rfl ?_
    refine v_iconst (v := 0) (pc2 := 158) S dL_act_157 (by decide) rfl ?_
    refine v_callV (pc2 := 161) (As := [.int x4, .int (0 : Int32)]) (rest := []) S (c_X8_ifOpened l G a0 w0 x4 (0 : Int32) _ hw) mf_X8_ifOpened u_659 u_660 u_661 0 8 rfl rfl rfl rfl ⟨rfl, rfl⟩ ⟨Nat.le_of_ble_eq_true rfl, Nat.le_of_ble_eq_true rfl⟩ ⟨Nat.le_of_ble_eq_true rfl, Nat.le_of_ble_eq_true rfl⟩ (Nat.le_of_ble_eq_true rfl) dL_act_158 (frW _) rfl (pi (fun r139 u140 hw => ?_))
    refine v_to (wCD G a0 w0.1 w0.2.1 w0.2.2.1 w0.2.2.2.1 w0.2.2.2.2.1 w0.2.2.2.2.2.1 w0.2.2.2.2.2.2) 161 [(0, .ref a0.1), (4, .int x4), (5, .int x5), (9, .int x9), (10, .int x10), (11, .int t0)] _ [.int r139] rfl rfl rfl rfl ?_
    refine v_istore (lv2 := [(0, .ref a0.1), (4, .int x4), (5, .int x5), (9, .int x9), (10, .int x10), (11, .int t0), (12, .int r139)]) (pc2 := 163) S dL_act_161 (by decide) [1, 2, 3, 4, 5, 6, 0] rfl rfl ?_
    refine v_iload (pc2 := 165) S 4 dL_act_163 rfl rfl ?_
    refine v_if_eq (pc2 := 168) (tgt := 177) S dL_act_165 (by decide) rfl (fun c141 => ?_) (fun c141 => ?_)
    · have hw := hw.1 c141
      refine v_aload_n (pc2 := 178) S 0 dL_act_177 rfl rfl rfl ?_
      refine v_iload (pc2 := 180) S 2 dL_act_178 rfl rfl ?_
      refine v_iload (pc2 := 182) S 1 dL_act_180 rfl rfl ?_
      refine v_callV (pc2 := 185) (As := [.int x5, .int x4]) (rest := []) S (c_X8_guestOpens l G a0 w0 x5 x4 _ hw) mf_X8_guestOpens u_618 u_619 u_620 0 8 rfl rfl rfl rfl ⟨rfl, rfl⟩ ⟨Nat.le_of_ble_eq_true rfl, Nat.le_of_ble_eq_true rfl⟩ ⟨Nat.le_of_ble_eq_true rfl, Nat.le_of_ble_eq_true rfl⟩ (Nat.le_of_ble_eq_true rfl) dL_act_182 (frW _) rfl (pi (fun r142 u143 hw => ?_))
      refine v_to (wCD G a0 u143.1 u143.2.1 u143.2.2.1 u143.2.2.2.1 u143.2.2.2.2.1 u143.2.2.2.2.2.1 u143.2.2.2.2.2.2) 185 [(0, .ref a0.1), (4, .int x4), (5, .int x5), (9, .int x9), (10, .int x10), (11, .int t0), (12, .int r139)] _ [.int r142] rfl rfl rfl rfl ?_
      refine v_lv [(0, .ref a0.1), (9, .int x9), (11, .int t0), (12, .int r139)] [0, 3, 5, 6] rfl ?_
      exact B185 x9 t0 r139 r142 u143 hw
    · have hw := hw.2 c141
      refine v_aload_n (pc2 := 169) S 0 dL_act_168 rfl rfl rfl ?_
      refine v_iload (pc2 := 171) S 1 dL_act_169 rfl rfl ?_
      refine v_callV (pc2 := 174) (As := [.int x4]) (rest := []) S (c_X8_open l G a0 w0 x4 _ hw) mf_X8_open u_543 u_544 u_545 0 8 rfl rfl rfl rfl ⟨rfl, rfl⟩ ⟨Nat.le_of_ble_eq_true rfl, Nat.le_of_ble_eq_true rfl⟩ ⟨Nat.le_of_ble_eq_true rfl, Nat.le_of_ble_eq_true rfl⟩ (Nat.le_of_ble_eq_true rfl) dL_act_171 (frW _) rfl (pi (fun r155 u156 hw => ?_))
      refine v_to (wCD G a0 u156.1 u156.2.1 u156.2.2.1 u156.2.2.2.1 u156.2.2.2.2.1 u156.2.2.2.2.2.1 u156.2.2.2.2.2.2) 174 [(0, .ref a0.1), (4, .int x4), (5, .int x5), (9, .int x9), (10, .int x10), (11, .int t0), (12, .int r139)] _ [.int r155] rfl rfl rfl rfl ?_
      refine v_goto (tgt := 185) S dL_act_174 (by decide) ?_
      refine v_lv [(0, .ref a0.1), (9, .int x9), (11, .int t0), (12, .int r139)] [0, 3, 5, 6] rfl ?_
      exact B185 x9 t0 r139 r155 u156 hw
  have B146 : ∀ (x4 : Int32) (x5 : Int32) (x9 : Int32) (x10 : Int32) (w0 : CDV), wp_L_act_B146 x4 x5 x9 x10 w0 Q → V p l e { frames := 6, cells := 0, slots := 0, locals := 147 } s m args below meth c G (va_A (wCD G a0 v0.1 v0.2.1 v0.2.2.1 v0.2.2.2.1 v0.2.2.2.2.1 v0.2.2.2.2.2.1 v0.2.2.2.2.2.2) s.heap.size) 16 0 0 (MQ below (EQ G (wCD G a0 v0.1 v0.2.1 v0.2.2.1 v0.2.2.2.1 v0.2.2.2.2.1 v0.2.2.2.2.2.1 v0.2.2.2.2.2.2) s.heap.size (PI (fun u : CDV => wCD G a0 u.1 u.2.1 u.2.2.1 u.2.2.2.1 u.2.2.2.2.1 u.2.2.2.2.2.1 u.2.2.2.2.2.2) Q)) args s 0 0 (va_A (wCD G a0 v0.1 v0.2.1 v0.2.2.1 v0.2.2.2.1 v0.2.2.2.2.1 v0.2.2.2.2.2.1 v0.2.2.2.2.2.2) s.heap.size)) (wCD G a0 w0.1 w0.2.1 w0.2.2.1 w0.2.2.2.1 w0.2.2.2.2.1 w0.2.2.2.2.2.1 w0.2.2.2.2.2.2) 146 [(0, .ref a0.1), (4, .int x4), (5, .int x5), (9, .int x9), (10, .int x10)] [] := by
    intro x4 x5 x9 x10 w0 hw
    refine v_aload_n (pc2 := 147) S 0 dL_act_146 rfl rfl rfl ?_
    refine v_iload (pc2 := 149) S 1 dL_act_147 rfl rfl ?_
    refine v_callV (pc2 := 152) (As := [.int x4]) (rest := []) S (c_X8_whyNot l G a0 w0 x4 _ hw) mf_X8_whyNot u_512 u_513 u_514 0 8 rfl rfl rfl rfl ⟨rfl, rfl⟩ ⟨Nat.le_of_ble_eq_true rfl, Nat.le_of_ble_eq_true rfl⟩ ⟨Nat.le_of_ble_eq_true rfl, Nat.le_of_ble_eq_true rfl⟩ (Nat.le_of_ble_eq_true rfl) dL_act_149 (frW _) rfl (pi (fun r137 u138 hw => ?_))
    refine v_to (wCD G a0 w0.1 w0.2.1 w0.2.2.1 w0.2.2.2.1 w0.2.2.2.2.1 w0.2.2.2.2.2.1 w0.2.2.2.2.2.2) 152 [(0, .ref a0.1), (4, .int x4), (5, .int x5), (9, .int x9), (10, .int x10)] _ [.int r137] rfl rfl rfl rfl ?_
    exact B152 x4 x5 x9 x10 r137 w0 hw
  have B121 : ∀ (x4 : Int32) (x5 : Int32) (x9 : Int32) (x10 : Int32) (w0 : CDV), wp_L_act_B121 x4 x5 x9 x10 w0 Q → V p l e { frames := 6, cells := 0, slots := 0, locals := 147 } s m args below meth c G (va_A (wCD G a0 v0.1 v0.2.1 v0.2.2.1 v0.2.2.2.1 v0.2.2.2.2.1 v0.2.2.2.2.2.1 v0.2.2.2.2.2.2) s.heap.size) 16 0 0 (MQ below (EQ G (wCD G a0 v0.1 v0.2.1 v0.2.2.1 v0.2.2.2.1 v0.2.2.2.2.1 v0.2.2.2.2.2.1 v0.2.2.2.2.2.2) s.heap.size (PI (fun u : CDV => wCD G a0 u.1 u.2.1 u.2.2.1 u.2.2.2.1 u.2.2.2.2.1 u.2.2.2.2.2.1 u.2.2.2.2.2.2) Q)) args s 0 0 (va_A (wCD G a0 v0.1 v0.2.1 v0.2.2.1 v0.2.2.2.1 v0.2.2.2.2.1 v0.2.2.2.2.2.1 v0.2.2.2.2.2.2) s.heap.size)) (wCD G a0 w0.1 w0.2.1 w0.2.2.1 w0.2.2.2.1 w0.2.2.2.2.1 w0.2.2.2.2.2.1 w0.2.2.2.2.2.2) 121 [(0, .ref a0.1), (4, .int x4), (5, .int x5), (9, .int x9), (10, .int x10)] [] := by
    intro x4 x5 x9 x10 w0 hw
    refine v_iload (pc2 := 123) S 4 dL_act_121 rfl rfl ?_
    refine v_if_ne (pc2 := 126) (tgt := 146) S dL_act_123 (by decide) rfl (fun c136 => ?_) (fun c136 => ?_)
    · have hw := hw.1 c136
      exact B146 x4 x5 x9 x10 w0 hw
    · have hw := hw.2 c136
      refine v_aload_n (pc2 := 127) S 0 dL_act_126 rfl rfl rfl ?_
      refine v_iload (pc2 := 129) S 2 dL_act_127 rfl rfl ?_
      refine v_iconst (v := 1) (pc2 := 130) S dL_act_129 (by decide) rfl ?_
      refine v_callV (pc2 := 133) (As := [.int x5, .int (1 : Int32)]) (rest := []) S (c_X8_guest l G a0 w0 x5 (1 : Int32) _ hw) mf_X8_guest u_252 u_253 u_254 0 8 rfl rfl rfl rfl ⟨rfl, rfl⟩ ⟨Nat.le_of_ble_eq_true rfl, Nat.le_of_ble_eq_true rfl⟩ ⟨Nat.le_of_ble_eq_true rfl, Nat.le_of_ble_eq_true rfl⟩ (Nat.le_of_ble_eq_true rfl) dL_act_130 (frW _) rfl (pi (fun r157 u158 hw => ?_))
      refine v_to (wCD G a0 w0.1 w0.2.1 w0.2.2.1 w0.2.2.2.1 w0.2.2.2.2.1 w0.2.2.2.2.2.1 w0.2.2.2.2.2.2) 133 [(0, .ref a0.1), (4, .int x4), (5, .int x5), (9, .int x9), (10, .int x10)] _ [.int r157] rfl rfl rfl rfl ?_
      refine v_iload (pc2 := 135) S 1 dL_act_133 rfl rfl ?_
      refine v_ishr (pc2 := 136) S dL_act_135 rfl ?_
      refine v_iconst (v := 1) (pc2 := 137) S dL_act_136 (by decide) rfl ?_
      refine v_iand (pc2 := 138) S dL_act_137 rfl ?_
      refine v_if_ne (pc2 := 141) (tgt := 146) S dL_act_138 (by decide) rfl (fun c159 => ?_) (fun c159 => ?_)
      · have hw := hw.1 c159
        exact B146 x4 x5 x9 x10 w0 hw
      · have hw := hw.2 c159
        refine v_bipush (v := 6) (pc2 := 143) S dL_act_141 (by decide) rfl ?_
        refine v_goto (tgt := 152) S dL_act_143 (by decide) ?_
        exact B152 x4 x5 x9 x10 (6 : Int32) w0 hw
  have B105 : ∀ (x4 : Int32) (x5 : Int32) (x7 : Int32) (x9 : Int32) (t0 : Int32) (w0 : CDV), wp_L_act_B105 x4 x5 x7 x9 t0 w0 Q → V p l e { frames := 6, cells := 0, slots := 0, locals := 147 } s m args below meth c G (va_A (wCD G a0 v0.1 v0.2.1 v0.2.2.1 v0.2.2.2.1 v0.2.2.2.2.1 v0.2.2.2.2.2.1 v0.2.2.2.2.2.2) s.heap.size) 16 0 0 (MQ below (EQ G (wCD G a0 v0.1 v0.2.1 v0.2.2.1 v0.2.2.2.1 v0.2.2.2.2.1 v0.2.2.2.2.2.1 v0.2.2.2.2.2.2) s.heap.size (PI (fun u : CDV => wCD G a0 u.1 u.2.1 u.2.2.1 u.2.2.2.1 u.2.2.2.2.1 u.2.2.2.2.2.1 u.2.2.2.2.2.2) Q)) args s 0 0 (va_A (wCD G a0 v0.1 v0.2.1 v0.2.2.1 v0.2.2.2.1 v0.2.2.2.2.1 v0.2.2.2.2.2.1 v0.2.2.2.2.2.2) s.heap.size)) (wCD G a0 w0.1 w0.2.1 w0.2.2.1 w0.2.2.2.1 w0.2.2.2.2.1 w0.2.2.2.2.2.1 w0.2.2.2.2.2.2) 105 [(0, .ref a0.1), (4, .int x4), (5, .int x5), (7, .int x7), (9, .int x9)] [.int t0] := by
    intro x4 x5 x7 x9 t0 w0 hw
    refine v_istore (lv2 := [(0, .ref a0.1), (4, .int x4), (5, .int x5), (7, .int x7), (9, .int x9), (10, .int t0)]) (pc2 := 107) S dL_act_105 (by decide) [1, 2, 3, 4, 5, 0] rfl rfl ?_
    refine v_iload (pc2 := 109) S 5 dL_act_107 rfl rfl ?_
    refine v_if_ne (pc2 := 112) (tgt := 121) S dL_act_109 (by decide) rfl (fun c135 => ?_) (fun c135 => ?_)
    · have hw := hw.1 c135
      refine v_lv [(0, .ref a0.1), (4, .int x4), (5, .int x5), (9, .int x9), (10, .int t0)] [0, 1, 2, 4, 5] rfl ?_
      exact B121 x4 x5 x9 t0 w0 hw
    · have hw := hw.2 c135
      refine v_iload (pc2 := 114) S 3 dL_act_112 rfl rfl ?_
      refine v_if_ne (pc2 := 117) (tgt := 121) S dL_act_114 (by decide) rfl (fun c160 => ?_) (fun c160 => ?_)
      · have hw := hw.1 c160
        refine v_lv [(0, .ref a0.1), (4, .int x4), (5, .int x5), (9, .int x9), (10, .int t0)] [0, 1, 2, 4, 5] rfl ?_
        exact B121 x4 x5 x9 t0 w0 hw
      · have hw := hw.2 c160
        refine v_iconst (v := 5) (pc2 := 118) S dL_act_117 (by decide) rfl ?_
        refine v_goto (tgt := 152) S dL_act_118 (by decide) ?_
        refine v_lv [(0, .ref a0.1), (4, .int x4), (5, .int x5), (9, .int x9), (10, .int t0)] [0, 1, 2, 4, 5] rfl ?_
        exact B152 x4 x5 x9 t0 (5 : Int32) w0 hw
  have B80 : ∀ (x2 : Int32) (x3 : Int32) (x4 : Int32) (x5 : Int32) (x6 : Int32) (x7 : Int32) (t0 : Int32) (w0 : CDV), wp_L_act_B80 x2 x3 x4 x5 x6 x7 t0 w0 Q → V p l e { frames := 6, cells := 0, slots := 0, locals := 147 } s m args below meth c G (va_A (wCD G a0 v0.1 v0.2.1 v0.2.2.1 v0.2.2.2.1 v0.2.2.2.2.1 v0.2.2.2.2.2.1 v0.2.2.2.2.2.2) s.heap.size) 16 0 0 (MQ below (EQ G (wCD G a0 v0.1 v0.2.1 v0.2.2.1 v0.2.2.2.1 v0.2.2.2.2.1 v0.2.2.2.2.2.1 v0.2.2.2.2.2.2) s.heap.size (PI (fun u : CDV => wCD G a0 u.1 u.2.1 u.2.2.1 u.2.2.2.1 u.2.2.2.2.1 u.2.2.2.2.2.1 u.2.2.2.2.2.2) Q)) args s 0 0 (va_A (wCD G a0 v0.1 v0.2.1 v0.2.2.1 v0.2.2.2.1 v0.2.2.2.2.1 v0.2.2.2.2.2.1 v0.2.2.2.2.2.2) s.heap.size)) (wCD G a0 w0.1 w0.2.1 w0.2.2.1 w0.2.2.2.1 w0.2.2.2.2.1 w0.2.2.2.2.2.1 w0.2.2.2.2.2.2) 80 [(0, .ref a0.1), (2, .int x2), (3, .int x3), (4, .int x4), (5, .int x5), (6, .int x6), (7, .int x7)] [.int t0] := by
    intro x2 x3 x4 x5 x6 x7 t0 w0 hw
    refine v_istore (lv2 := [(0, .ref a0.1), (2, .int x2), (3, .int x3), (4, .int x4), (5, .int x5), (6, .int x6), (7, .int x7), (8, .int t0)]) (pc2 := 82) S dL_act_80 (by decide) [1, 2, 3, 4, 5, 6, 7, 0] rfl rfl ?_
    refine v_aload_n (pc2 := 83) S 0 dL_act_82 rfl rfl rfl ?_
    refine v_iconst (v := 0) (pc2 := 84) S dL_act_83 (by decide) rfl ?_
    refine v_callV (pc2 := 87) (As := [.int (0 : Int32)]) (rest := []) S (c_X8_count l G a0 w0 (0 : Int32) _ hw) mf_X8_count u_398 u_399 u_400 0 8 rfl rfl rfl rfl ⟨rfl, rfl⟩ ⟨Nat.le_of_ble_eq_true rfl, Nat.le_of_ble_eq_true rfl⟩ ⟨Nat.le_of_ble_eq_true rfl, Nat.le_of_ble_eq_true rfl⟩ (Nat.le_of_ble_eq_true rfl) dL_act_84 (frW _) rfl (pi (fun r13 u14 hw => ?_))
    refine v_to (wCD G a0 w0.1 w0.2.1 w0.2.2.1 w0.2.2.2.1 w0.2.2.2.2.1 w0.2.2.2.2.2.1 w0.2.2.2.2.2.2) 87 [(0, .ref a0.1), (2, .int x2), (3, .int x3), (4, .int x4), (5, .int x5), (6, .int x6), (7, .int x7), (8, .int t0)] _ [.int r13] rfl rfl rfl rfl ?_
    refine v_istore (lv2 := [(0, .ref a0.1), (2, .int x2), (3, .int x3), (4, .int x4), (5, .int x5), (6, .int x6), (7, .int x7), (8, .int t0), (9, .int r13)]) (pc2 := 89) S dL_act_87 (by decide) [1, 2, 3, 4, 5, 6, 7, 8, 0] rfl rfl ?_
    refine v_iload_n (pc2 := 90) S 1 dL_act_89 rfl rfl rfl ?_
    refine v_bipush (v := 7) (pc2 := 92) S dL_act_90 (by decide) rfl ?_
    refine v_icmp_ge (pc2 := 95) (tgt := 244) S dL_act_92 (by decide) rfl (fun c15 => ?_) (fun c15 => ?_)
    · have hw := hw.1 c15
      refine v_iload_n (pc2 := 245) S 1 dL_act_244 rfl rfl rfl ?_
      refine v_bipush (v := 9) (pc2 := 247) S dL_act_245 (by decide) rfl ?_
      refine v_icmp_ge (pc2 := 250) (tgt := 363) S dL_act_247 (by decide) rfl (fun c16 => ?_) (fun c16 => ?_)
      · have hw := hw.1 c16
        refine v_iload_n (pc2 := 364) S 1 dL_act_363 rfl rfl rfl ?_
        refine v_bipush (v := 12) (pc2 := 366) S dL_act_364 (by decide) rfl ?_
        refine v_icmp_ge (pc2 := 369) (tgt := 502) S dL_act_366 (by decide) rfl (fun c17 => ?_) (fun c17 => ?_)
        · have hw := hw.1 c17
          refine v_iload_n (pc2 := 503) S 1 dL_act_502 rfl rfl rfl ?_
          refine v_bipush (v := 14) (pc2 := 505) S dL_act_503 (by decide) rfl ?_
          refine v_icmp_ge (pc2 := 508) (tgt := 718) S dL_act_505 (by decide) rfl (fun c18 => ?_) (fun c18 => ?_)
          · have hw := hw.1 c18
            refine v_iload_n (pc2 := 719) S 1 dL_act_718 rfl rfl rfl ?_
            refine v_bipush (v := 14) (pc2 := 721) S dL_act_719 (by decide) rfl ?_
            refine v_icmp_ne (pc2 := 724) (tgt := 865) S dL_act_721 (by decide) rfl (fun c19 => ?_) (fun c19 => ?_)
            · have hw := hw.1 c19
              refine v_iload_n (pc2 := 866) S 2 dL_act_865 rfl rfl rfl ?_
              refine v_iconst (v := 2) (pc2 := 867) S dL_act_866 (by decide) rfl ?_
              refine v_irem (pc2 := 868) S (by decide) dL_act_867 rfl ?_
              refine v_if_ne (pc2 := 871) (tgt := 928) S dL_act_868 (by decide) rfl (fun c20 => ?_) (fun c20 => ?_)
              · have hw := hw.1 c20
                refine v_iload_n (pc2 := 929) S 2 dL_act_928 rfl rfl rfl ?_
                refine v_bipush (v := 6) (pc2 := 931) S dL_act_929 (by decide) rfl ?_
                refine v_idiv (pc2 := 932) S (by decide) dL_act_931 rfl ?_
                refine v_sipush (v := 1024) (pc2 := 935) S dL_act_932 (by decide) rfl ?_
                refine v_irem (pc2 := 936) S (by decide) dL_act_935 rfl ?_
                refine v_nm (fun z21 ez21 => ?_)
                have hw := hw z21 ez21
                refine v_istore (lv2 := [(0, .ref a0.1), (2, .int x2), (3, .int x3), (4, .int x4), (5, .int x5), (6, .int x6), (7, .int x7), (8, .int t0), (9, .int r13), (10, .int z21)]) (pc2 := 938) S dL_act_936 (by decide) [1, 2, 3, 4, 5, 6, 7, 8, 9, 0] rfl rfl ?_
                refine v_aload_n (pc2 := 939) S 0 dL_act_938 rfl rfl rfl ?_
                refine v_iload (pc2 := 941) S 4 dL_act_939 rfl rfl ?_
                refine v_iconst (v := 1) (pc2 := 942) S dL_act_941 (by decide) rfl ?_
                refine v_callV (pc2 := 945) (As := [.int x5, .int (1 : Int32)]) (rest := []) S (c_X8_guest l G a0 w0 x5 (1 : Int32) _ hw) mf_X8_guest u_252 u_253 u_254 0 8 rfl rfl rfl rfl ⟨rfl, rfl⟩ ⟨Nat.le_of_ble_eq_true rfl, Nat.le_of_ble_eq_true rfl⟩ ⟨Nat.le_of_ble_eq_true rfl, Nat.le_of_ble_eq_true rfl⟩ (Nat.le_of_ble_eq_true rfl) dL_act_942 (frW _) rfl (pi (fun r22 u23 hw => ?_))
                refine v_to (wCD G a0 w0.1 w0.2.1 w0.2.2.1 w0.2.2.2.1 w0.2.2.2.2.1 w0.2.2.2.2.2.1 w0.2.2.2.2.2.2) 945 [(0, .ref a0.1), (2, .int x2), (3, .int x3), (4, .int x4), (5, .int x5), (6, .int x6), (7, .int x7), (8, .int t0), (9, .int r13), (10, .int z21)] _ [.int r22] rfl rfl rfl rfl ?_
                refine v_istore (lv2 := [(0, .ref a0.1), (2, .int x2), (3, .int x3), (4, .int x4), (5, .int x5), (6, .int x6), (7, .int x7), (8, .int t0), (9, .int r13), (10, .int z21), (11, .int r22)]) (pc2 := 947) S dL_act_945 (by decide) [1, 2, 3, 4, 5, 6, 7, 8, 9, 10, 0] rfl rfl ?_
                refine v_aload_n (pc2 := 948) S 0 dL_act_947 rfl rfl rfl ?_
                refine v_iload (pc2 := 950) S 4 dL_act_948 rfl rfl ?_
                refine v_iload (pc2 := 952) S 9 dL_act_950 rfl rfl ?_
                refine v_callV (pc2 := 955) (As := [.int x5, .int z21]) (rest := []) S (c_X8_keys l G a0 w0 x5 z21 _ hw) mf_X8_keys u_610 u_611 u_612 0 8 rfl rfl rfl rfl ⟨rfl, rfl⟩ ⟨Nat.le_of_ble_eq_true rfl, Nat.le_of_ble_eq_true rfl⟩ ⟨Nat.le_of_ble_eq_true rfl, Nat.le_of_ble_eq_true rfl⟩ (Nat.le_of_ble_eq_true rfl) dL_act_952 (frW _) rfl (pi (fun r24 u25 hw => ?_))
                refine v_to (wCD G a0 u25.1 u25.2.1 u25.2.2.1 u25.2.2.2.1 u25.2.2.2.2.1 u25.2.2.2.2.2.1 u25.2.2.2.2.2.2) 955 [(0, .ref a0.1), (2, .int x2), (3, .int x3), (4, .int x4), (5, .int x5), (6, .int x6), (7, .int x7), (8, .int t0), (9, .int r13), (10, .int z21), (11, .int r22)] _ [.int r24] rfl rfl rfl rfl ?_
                refine v_iload (pc2 := 957) S 10 dL_act_955 rfl rfl ?_
                refine v_icmp_ne (pc2 := 960) (tgt := 977) S dL_act_957 (by decide) rfl (fun c26 => ?_) (fun c26 => ?_)
                · have hw := hw.1 c26
                  refine v_bipush (v := -9) (pc2 := 979) S dL_act_977 (by decide) rfl ?_
                  exact v_iret S ⟨(-9 : Int32), u25, rfl, rfl, hw⟩ dL_act_979
                · have hw := hw.2 c26
                  refine v_aload_n (pc2 := 961) S 0 dL_act_960 rfl rfl rfl ?_
                  refine v_iload (pc2 := 963) S 4 dL_act_961 rfl rfl ?_
                  refine v_iconst (v := 1) (pc2 := 964) S dL_act_963 (by decide) rfl ?_
                  refine v_callV (pc2 := 967) (As := [.int x5, .int (1 : Int32)]) (rest := []) S (c_X8_guest l G a0 u25 x5 (1 : Int32) _ hw) mf_X8_guest u_252 u_253 u_254 0 8 rfl rfl rfl rfl ⟨rfl, rfl⟩ ⟨Nat.le_of_ble_eq_true rfl, Nat.le_of_ble_eq_true rfl⟩ ⟨Nat.le_of_ble_eq_true rfl, Nat.le_of_ble_eq_true rfl⟩ (Nat.le_of_ble_eq_true rfl) dL_act_964 (frW _) rfl (pi (fun r27 u28 hw => ?_))
                  refine v_to (wCD G a0 u25.1 u25.2.1 u25.2.2.1 u25.2.2.2.1 u25.2.2.2.2.1 u25.2.2.2.2.2.1 u25.2.2.2.2.2.2) 967 [(0, .ref a0.1), (2, .int x2), (3, .int x3), (4, .int x4), (5, .int x5), (6, .int x6), (7, .int x7), (8, .int t0), (9, .int r13), (10, .int z21), (11, .int r22)] _ [.int r27] rfl rfl rfl rfl ?_
                  refine v_iload (pc2 := 969) S 9 dL_act_967 rfl rfl ?_
                  refine v_icmp_ne (pc2 := 972) (tgt := 977) S dL_act_969 (by decide) rfl (fun c29 => ?_) (fun c29 => ?_)
                  · have hw := hw.1 c29
                    refine v_bipush (v := -9) (pc2 := 979) S dL_act_977 (by decide) rfl ?_
                    exact v_iret S ⟨(-9 : Int32), u25, rfl, rfl, hw⟩ dL_act_979
                  · have hw := hw.2 c29
                    refine v_iload (pc2 := 974) S 10 dL_act_972 rfl rfl ?_
                    refine v_goto (tgt := 979) S dL_act_974 (by decide) ?_
                    exact v_iret S ⟨r22, u25, rfl, rfl, hw⟩ dL_act_979
              · have hw := hw.2 c20
                refine v_iconst (v := 1) (pc2 := 872) S dL_act_871 (by decide) rfl ?_
                refine v_iload_n (pc2 := 873) S 2 dL_act_872 rfl rfl rfl ?_
                refine v_iconst (v := 2) (pc2 := 874) S dL_act_873 (by decide) rfl ?_
                refine v_idiv (pc2 := 875) S (by decide) dL_act_874 rfl ?_
                refine v_iconst (v := 5) (pc2 := 876) S dL_act_875 (by decide) rfl ?_
                refine v_irem (pc2 := 877) S (by decide) dL_act_876 rfl ?_
                refine v_iadd (pc2 := 878) S dL_act_877 rfl ?_
                refine v_nm (fun z30 ez30 => ?_)
                have hw := hw z30 ez30
                refine v_istore (lv2 := [(0, .ref a0.1), (2, .int x2), (3, .int x3), (4, .int x4), (5, .int x5), (6, .int x6), (7, .int x7), (8, .int t0), (9, .int r13), (10, .int z30)]) (pc2 := 880) S dL_act_878 (by decide) [1, 2, 3, 4, 5, 6, 7, 8, 9, 0] rfl rfl ?_
                refine v_aload_n (pc2 := 881) S 0 dL_act_880 rfl rfl rfl ?_
                refine v_bipush (v := 12) (pc2 := 883) S dL_act_881 (by decide) rfl ?_
                refine v_callV (pc2 := 886) (As := [.int (12 : Int32)]) (rest := []) S (c_X8_count l G a0 w0 (12 : Int32) _ hw) mf_X8_count u_398 u_399 u_400 0 8 rfl rfl rfl rfl ⟨rfl, rfl⟩ ⟨Nat.le_of_ble_eq_true rfl, Nat.le_of_ble_eq_true rfl⟩ ⟨Nat.le_of_ble_eq_true rfl, Nat.le_of_ble_eq_true rfl⟩ (Nat.le_of_ble_eq_true rfl) dL_act_883 (frW _) rfl (pi (fun r31 u32 hw => ?_))
                refine v_to (wCD G a0 w0.1 w0.2.1 w0.2.2.1 w0.2.2.2.1 w0.2.2.2.2.1 w0.2.2.2.2.2.1 w0.2.2.2.2.2.2) 886 [(0, .ref a0.1), (2, .int x2), (3, .int x3), (4, .int x4), (5, .int x5), (6, .int x6), (7, .int x7), (8, .int t0), (9, .int r13), (10, .int z30)] _ [.int r31] rfl rfl rfl rfl ?_
                refine v_istore (lv2 := [(0, .ref a0.1), (2, .int x2), (3, .int x3), (4, .int x4), (5, .int x5), (6, .int x6), (7, .int x7), (8, .int t0), (9, .int r13), (10, .int z30), (11, .int r31)]) (pc2 := 888) S dL_act_886 (by decide) [1, 2, 3, 4, 5, 6, 7, 8, 9, 10, 0] rfl rfl ?_
                refine v_aload_n (pc2 := 889) S 0 dL_act_888 rfl rfl rfl ?_
                refine v_iload (pc2 := 891) S 9 dL_act_889 rfl rfl ?_
                refine v_callV (pc2 := 894) (As := [.int z30]) (rest := []) S (c_X8_draft l G a0 w0 z30 _ hw) mf_X8_draft u_614 u_615 u_616 0 8 rfl rfl rfl rfl ⟨rfl, rfl⟩ ⟨Nat.le_of_ble_eq_true rfl, Nat.le_of_ble_eq_true rfl⟩ ⟨Nat.le_of_ble_eq_true rfl, Nat.le_of_ble_eq_true rfl⟩ (Nat.le_of_ble_eq_true rfl) dL_act_891 (frW _) rfl (pi (fun r33 u34 hw => ?_))
                refine v_to (wCD G a0 u34.1 u34.2.1 u34.2.2.1 u34.2.2.2.1 u34.2.2.2.2.1 u34.2.2.2.2.2.1 u34.2.2.2.2.2.2) 894 [(0, .ref a0.1), (2, .int x2), (3, .int x3), (4, .int x4), (5, .int x5), (6, .int x6), (7, .int x7), (8, .int t0), (9, .int r13), (10, .int z30), (11, .int r31)] _ [.int r33] rfl rfl rfl rfl ?_
                refine v_iload (pc2 := 896) S 10 dL_act_894 rfl rfl ?_
                refine v_icmp_ne (pc2 := 899) (tgt := 925) S dL_act_896 (by decide) rfl (fun c35 => ?_) (fun c35 => ?_)
                · have hw := hw.1 c35
                  refine v_bipush (v := -9) (pc2 := 927) S dL_act_925 (by decide) rfl ?_
                  exact v_iret S ⟨(-9 : Int32), u34, rfl, rfl, hw⟩ dL_act_927
                · have hw := hw.2 c35
                  refine v_aload_n (pc2 := 900) S 0 dL_act_899 rfl rfl rfl ?_
                  refine v_bipush (v := 12) (pc2 := 902) S dL_act_900 (by decide) rfl ?_
                  refine v_callV (pc2 := 905) (As := [.int (12 : Int32)]) (rest := []) S (c_X8_count l G a0 u34 (12 : Int32) _ hw) mf_X8_count u_398 u_399 u_400 0 8 rfl rfl rfl rfl ⟨rfl, rfl⟩ ⟨Nat.le_of_ble_eq_true rfl, Nat.le_of_ble_eq_true rfl⟩ ⟨Nat.le_of_ble_eq_true rfl, Nat.le_of_ble_eq_true rfl⟩ (Nat.le_of_ble_eq_true rfl) dL_act_902 (frW _) rfl (pi (fun r36 u37 hw => ?_))
                  refine v_to (wCD G a0 u34.1 u34.2.1 u34.2.2.1 u34.2.2.2.1 u34.2.2.2.2.1 u34.2.2.2.2.2.1 u34.2.2.2.2.2.2) 905 [(0, .ref a0.1), (2, .int x2), (3, .int x3), (4, .int x4), (5, .int x5), (6, .int x6), (7, .int x7), (8, .int t0), (9, .int r13), (10, .int z30), (11, .int r31)] _ [.int r36] rfl rfl rfl rfl ?_
                  refine v_iload (pc2 := 907) S 9 dL_act_905 rfl rfl ?_
                  refine v_icmp_ne (pc2 := 910) (tgt := 925) S dL_act_907 (by decide) rfl (fun c38 => ?_) (fun c38 => ?_)
                  · have hw := hw.1 c38
                    refine v_bipush (v := -9) (pc2 := 927) S dL_act_925 (by decide) rfl ?_
                    exact v_iret S ⟨(-9 : Int32), u34, rfl, rfl, hw⟩ dL_act_927
                  · have hw := hw.2 c38
                    refine v_aload_n (pc2 := 911) S 0 dL_act_910 rfl rfl rfl ?_
                    refine v_iconst (v := 0) (pc2 := 912) S dL_act_911 (by decide) rfl ?_
                    refine v_callV (pc2 := 915) (As := [.int (0 : Int32)]) (rest := []) S (c_X8_count l G a0 u34 (0 : Int32) _ hw) mf_X8_count u_398 u_399 u_400 0 8 rfl rfl rfl rfl ⟨rfl, rfl⟩ ⟨Nat.le_of_ble_eq_true rfl, Nat.le_of_ble_eq_true rfl⟩ ⟨Nat.le_of_ble_eq_true rfl, Nat.le_of_ble_eq_true rfl⟩ (Nat.le_of_ble_eq_true rfl) dL_act_912 (frW _) rfl (pi (fun r39 u40 hw => ?_))
                    refine v_to (wCD G a0 u34.1 u34.2.1 u34.2.2.1 u34.2.2.2.1 u34.2.2.2.2.1 u34.2.2.2.2.2.1 u34.2.2.2.2.2.2) 915 [(0, .ref a0.1), (2, .int x2), (3, .int x3), (4, .int x4), (5, .int x5), (6, .int x6), (7, .int x7), (8, .int t0), (9, .int r13), (10, .int z30), (11, .int r31)] _ [.int r39] rfl rfl rfl rfl ?_
                    refine v_iload (pc2 := 917) S 8 dL_act_915 rfl rfl ?_
                    refine v_icmp_ne (pc2 := 920) (tgt := 925) S dL_act_917 (by decide) rfl (fun c41 => ?_) (fun c41 => ?_)
                    · have hw := hw.1 c41
                      refine v_bipush (v := -9) (pc2 := 927) S dL_act_925 (by decide) rfl ?_
                      exact v_iret S ⟨(-9 : Int32), u34, rfl, rfl, hw⟩ dL_act_927
                    · have hw := hw.2 c41
                      refine v_iload (pc2 := 922) S 10 dL_act_920 rfl rfl ?_
                      refine v_goto (tgt := 927) S dL_act_922 (by decide) ?_
                      exact v_iret S ⟨r31, u34, rfl, rfl, hw⟩ dL_act_927
            · have hw := hw.2 c19
              refine v_iload_n (pc2 := 725) S 2 dL_act_724 rfl rfl rfl ?_
              refine v_bipush (v := 10) (pc2 := 727) S dL_act_725 (by decide) rfl ?_
              refine v_idiv (pc2 := 728) S (by decide) dL_act_727 rfl ?_
              refine v_bipush (v := 6) (pc2 := 730) S dL_act_728 (by decide) rfl ?_
              refine v_irem (pc2 := 731) S (by decide) dL_act_730 rfl ?_
              refine v_nm (fun z42 ez42 => ?_)
              have hw := hw z42 ez42
              refine v_istore (lv2 := [(0, .ref a0.1), (2, .int x2), (3, .int x3), (4, .int x4), (5, .int x5), (6, .int x6), (7, .int x7), (8, .int t0), (9, .int r13), (10, .int z42)]) (pc2 := 733) S dL_act_731 (by decide) [1, 2, 3, 4, 5, 6, 7, 8, 9, 0] rfl rfl ?_
              refine v_iload (pc2 := 735) S 9 dL_act_733 rfl rfl ?_
              refine v_iconst (v := 1) (pc2 := 736) S dL_act_735 (by decide) rfl ?_
              refine v_iadd (pc2 := 737) S dL_act_736 rfl ?_
              refine v_iload_n (pc2 := 738) S 2 dL_act_737 rfl rfl rfl ?_
              refine v_bipush (v := 60) (pc2 := 740) S dL_act_738 (by decide) rfl ?_
              refine v_idiv (pc2 := 741) S (by decide) dL_act_740 rfl ?_
              refine v_iconst (v := 5) (pc2 := 742) S dL_act_741 (by decide) rfl ?_
              refine v_irem (pc2 := 743) S (by decide) dL_act_742 rfl ?_
              refine v_iadd (pc2 := 744) S dL_act_743 rfl ?_
              refine v_bipush (v := 6) (pc2 := 746) S dL_act_744 (by decide) rfl ?_
              refine v_irem (pc2 := 747) S (by decide) dL_act_746 rfl ?_
              refine v_nm (fun z43 ez43 => ?_)
              have hw := hw z43 ez43
              refine v_istore (lv2 := [(0, .ref a0.1), (2, .int x2), (3, .int x3), (4, .int x4), (5, .int x5), (6, .int x6), (7, .int x7), (8, .int t0), (9, .int r13), (10, .int z42), (11, .int z43)]) (pc2 := 749) S dL_act_747 (by decide) [1, 2, 3, 4, 5, 6, 7, 8, 9, 10, 0] rfl rfl ?_
              refine v_bipush (v := 10) (pc2 := 751) S dL_act_749 (by decide) rfl ?_
              refine v_aload_n (pc2 := 752) S 0 dL_act_751 rfl rfl rfl ?_
              refine v_iload (pc2 := 754) S 3 dL_act_752 rfl rfl ?_
              refine v_iconst (v := 1) (pc2 := 755) S dL_act_754 (by decide) rfl ?_
              refine v_callV (pc2 := 758) (As := [.int x4, .int (1 : Int32)]) (rest := [.int (10 : Int32)]) S (c_X8_door l G a0 w0 x4 (1 : Int32) _ hw) mf_X8_door u_484 u_485 u_486 0 8 rfl rfl rfl rfl ⟨rfl, rfl⟩ ⟨Nat.le_of_ble_eq_true rfl, Nat.le_of_ble_eq_true rfl⟩ ⟨Nat.le_of_ble_eq_true rfl, Nat.le_of_ble_eq_true rfl⟩ (Nat.le_of_ble_eq_true rfl) dL_act_755 (frW _) rfl (pi (fun r44 u45 hw => ?_))
              refine v_to (wCD G a0 w0.1 w0.2.1 w0.2.2.1 w0.2.2.2.1 w0.2.2.2.2.1 w0.2.2.2.2.2.1 w0.2.2.2.2.2.2) 758 [(0, .ref a0.1), (2, .int x2), (3, .int x3), (4, .int x4), (5, .int x5), (6, .int x6), (7, .int x7), (8, .int t0), (9, .int r13), (10, .int z42), (11, .int z43)] _ [.int r44, .int (10 : Int32)] rfl rfl rfl rfl ?_
              refine v_imul (pc2 := 759) S dL_act_758 rfl ?_
              refine v_aload_n (pc2 := 760) S 0 dL_act_759 rfl rfl rfl ?_
              refine v_iload (pc2 := 762) S 3 dL_act_760 rfl rfl ?_
              refine v_iconst (v := 2) (pc2 := 763) S dL_act_762 (by decide) rfl ?_
              refine v_callV (pc2 := 766) (As := [.int x4, .int (2 : Int32)]) (rest := [.int ((10 : Int32) * r44)]) S (c_X8_door l G a0 w0 x4 (2 : Int32) _ hw) mf_X8_door u_484 u_485 u_486 0 8 rfl rfl rfl rfl ⟨rfl, rfl⟩ ⟨Nat.le_of_ble_eq_true rfl, Nat.le_of_ble_eq_true rfl⟩ ⟨Nat.le_of_ble_eq_true rfl, Nat.le_of_ble_eq_true rfl⟩ (Nat.le_of_ble_eq_true rfl) dL_act_763 (frW _) rfl (pi (fun r46 u47 hw => ?_))
              refine v_to (wCD G a0 w0.1 w0.2.1 w0.2.2.1 w0.2.2.2.1 w0.2.2.2.2.1 w0.2.2.2.2.2.1 w0.2.2.2.2.2.2) 766 [(0, .ref a0.1), (2, .int x2), (3, .int x3), (4, .int x4), (5, .int x5), (6, .int x6), (7, .int x7), (8, .int t0), (9, .int r13), (10, .int z42), (11, .int z43)] _ [.int r46, .int ((10 : Int32) * r44)] rfl rfl rfl rfl ?_
              refine v_iadd (pc2 := 767) S dL_act_766 rfl ?_
              refine v_nm (fun z48 ez48 => ?_)
              have hw := hw z48 ez48
              refine v_istore (lv2 := [(0, .ref a0.1), (2, .int x2), (3, .int x3), (4, .int x4), (5, .int x5), (6, .int x6), (7, .int x7), (8, .int t0), (9, .int r13), (10, .int z42), (11, .int z43), (12, .int z48)]) (pc2 := 769) S dL_act_767 (by decide) [1, 2, 3, 4, 5, 6, 7, 8, 9, 10, 11, 0] rfl rfl ?_
              refine v_aload_n (pc2 := 770) S 0 dL_act_769 rfl rfl rfl ?_
              refine v_iload (pc2 := 772) S 3 dL_act_770 rfl rfl ?_
              refine v_iload (pc2 := 774) S 9 dL_act_772 rfl rfl ?_
              refine v_iload (pc2 := 776) S 10 dL_act_774 rfl rfl ?_
              refine v_callV (pc2 := 779) (As := [.int x4, .int z42, .int z43]) (rest := []) S (c_X8_join l G a0 w0 x4 z42 z43 _ hw) mf_X8_join u_605 u_606 u_607 0 8 rfl rfl rfl rfl ⟨rfl, rfl⟩ ⟨Nat.le_of_ble_eq_true rfl, Nat.le_of_ble_eq_true rfl⟩ ⟨Nat.le_of_ble_eq_true rfl, Nat.le_of_ble_eq_true rfl⟩ (Nat.le_of_ble_eq_true rfl) dL_act_776 (frW _) rfl (pi (fun r49 u50 hw => ?_))
              refine v_to (wCD G a0 u50.1 u50.2.1 u50.2.2.1 u50.2.2.2.1 u50.2.2.2.2.1 u50.2.2.2.2.2.1 u50.2.2.2.2.2.2) 779 [(0, .ref a0.1), (2, .int x2), (3, .int x3), (4, .int x4), (5, .int x5), (6, .int x6), (7, .int x7), (8, .int t0), (9, .int r13), (10, .int z42), (11, .int z43), (12, .int z48)] _ [.int r49] rfl rfl rfl rfl ?_
              refine v_istore (lv2 := [(0, .ref a0.1), (2, .int x2), (3, .int x3), (4, .int x4), (5, .int x5), (6, .int x6), (7, .int x7), (8, .int t0), (9, .int r13), (10, .int z42), (11, .int z43), (12, .int z48), (13, .int r49)]) (pc2 := 781) S dL_act_779 (by decide) [1, 2, 3, 4, 5, 6, 7, 8, 9, 10, 11, 12, 0] rfl rfl ?_
              refine v_iload (pc2 := 783) S 7 dL_act_781 rfl rfl ?_
              refine v_if_eq (pc2 := 786) (tgt := 803) S dL_act_783 (by decide) rfl (fun c51 => ?_) (fun c51 => ?_)
              · have hw := hw.1 c51
                refine v_iload (pc2 := 805) S 12 dL_act_803 rfl rfl ?_
                refine v_iload (pc2 := 807) S 11 dL_act_805 rfl rfl ?_
                refine v_icmp_ne (pc2 := 810) (tgt := 862) S dL_act_807 (by decide) rfl (fun c52 => ?_) (fun c52 => ?_)
                · have hw := hw.1 c52
                  refine v_bipush (v := -9) (pc2 := 864) S dL_act_862 (by decide) rfl ?_
                  exact v_iret S ⟨(-9 : Int32), u50, rfl, rfl, hw⟩ dL_act_864
                · have hw := hw.2 c52
                  refine v_aload_n (pc2 := 811) S 0 dL_act_810 rfl rfl rfl ?_
                  refine v_iload (pc2 := 813) S 3 dL_act_811 rfl rfl ?_
                  refine v_iconst (v := 1) (pc2 := 814) S dL_act_813 (by decide) rfl ?_
                  refine v_callV (pc2 := 817) (As := [.int x4, .int (1 : Int32)]) (rest := []) S (c_X8_door l G a0 u50 x4 (1 : Int32) _ hw) mf_X8_door u_484 u_485 u_486 0 8 rfl rfl rfl rfl ⟨rfl, rfl⟩ ⟨Nat.le_of_ble_eq_true rfl, Nat.le_of_ble_eq_true rfl⟩ ⟨Nat.le_of_ble_eq_true rfl, Nat.le_of_ble_eq_true rfl⟩ (Nat.le_of_ble_eq_true rfl) dL_act_814 (frW _) rfl (pi (fun r53 u54 hw => ?_))
                  refine v_to (wCD G a0 u50.1 u50.2.1 u50.2.2.1 u50.2.2.2.1 u50.2.2.2.2.1 u50.2.2.2.2.2.1 u50.2.2.2.2.2.2) 817 [(0, .ref a0.1), (2, .int x2), (3, .int x3), (4, .int x4), (5, .int x5), (6, .int x6), (7, .int x7), (8, .int t0), (9, .int r13), (10, .int z42), (11, .int z43), (12, .int z48), (13, .int r49)] _ [.int r53] rfl rfl rfl rfl ?_
                  refine v_aload_n (pc2 := 818) S 0 dL_act_817 rfl rfl rfl ?_
                  refine v_iload (pc2 := 820) S 3 dL_act_818 rfl rfl ?_
                  refine v_iconst (v := 2) (pc2 := 821) S dL_act_820 (by decide) rfl ?_
                  refine v_callV (pc2 := 824) (As := [.int x4, .int (2 : Int32)]) (rest := [.int r53]) S (c_X8_door l G a0 u50 x4 (2 : Int32) _ hw) mf_X8_door u_484 u_485 u_486 0 8 rfl rfl rfl rfl ⟨rfl, rfl⟩ ⟨Nat.le_of_ble_eq_true rfl, Nat.le_of_ble_eq_true rfl⟩ ⟨Nat.le_of_ble_eq_true rfl, Nat.le_of_ble_eq_true rfl⟩ (Nat.le_of_ble_eq_true rfl) dL_act_821 (frW _) rfl (pi (fun r55 u56 hw => ?_))
                  refine v_to (wCD G a0 u50.1 u50.2.1 u50.2.2.1 u50.2.2.2.1 u50.2.2.2.2.1 u50.2.2.2.2.2.1 u50.2.2.2.2.2.2) 824 [(0, .ref a0.1), (2, .int x2), (3, .int x3), (4, .int x4), (5, .int x5), (6, .int x6), (7, .int x7), (8, .int t0), (9, .int r13), (10, .int z42), (11, .int z43), (12, .int z48), (13, .int r49)] _ [.int r55, .int r53] rfl rfl rfl rfl ?_
                  refine v_iadd (pc2 := 825) S dL_act_824 rfl ?_
                  refine v_iload (pc2 := 827) S 9 dL_act_825 rfl rfl ?_
                  refine v_iload (pc2 := 829) S 10 dL_act_827 rfl rfl ?_
                  refine v_iadd (pc2 := 830) S dL_act_829 rfl ?_
                  refine v_icmp_ne (pc2 := 833) (tgt := 862) S dL_act_830 (by decide) rfl (fun c57 => ?_) (fun c57 => ?_)
                  · have hw := hw.1 c57
                    refine v_bipush (v := -9) (pc2 := 864) S dL_act_862 (by decide) rfl ?_
                    exact v_iret S ⟨(-9 : Int32), u50, rfl, rfl, hw⟩ dL_act_864
                  · have hw := hw.2 c57
                    refine v_aload_n (pc2 := 834) S 0 dL_act_833 rfl rfl rfl ?_
                    refine v_iload (pc2 := 836) S 3 dL_act_834 rfl rfl ?_
                    refine v_iconst (v := 1) (pc2 := 837) S dL_act_836 (by decide) rfl ?_
                    refine v_callV (pc2 := 840) (As := [.int x4, .int (1 : Int32)]) (rest := []) S (c_X8_door l G a0 u50 x4 (1 : Int32) _ hw) mf_X8_door u_484 u_485 u_486 0 8 rfl rfl rfl rfl ⟨rfl, rfl⟩ ⟨Nat.le_of_ble_eq_true rfl, Nat.le_of_ble_eq_true rfl⟩ ⟨Nat.le_of_ble_eq_true rfl, Nat.le_of_ble_eq_true rfl⟩ (Nat.le_of_ble_eq_true rfl) dL_act_837 (frW _) rfl (pi (fun r58 u59 hw => ?_))
                    refine v_to (wCD G a0 u50.1 u50.2.1 u50.2.2.1 u50.2.2.2.1 u50.2.2.2.2.1 u50.2.2.2.2.2.1 u50.2.2.2.2.2.2) 840 [(0, .ref a0.1), (2, .int x2), (3, .int x3), (4, .int x4), (5, .int x5), (6, .int x6), (7, .int x7), (8, .int t0), (9, .int r13), (10, .int z42), (11, .int z43), (12, .int z48), (13, .int r49)] _ [.int r58] rfl rfl rfl rfl ?_
                    refine v_iload (pc2 := 842) S 9 dL_act_840 rfl rfl ?_
                    refine v_iload (pc2 := 844) S 10 dL_act_842 rfl rfl ?_
                    refine v_icmp_ge (pc2 := 847) (tgt := 852) S dL_act_844 (by decide) rfl (fun c60 => ?_) (fun c60 => ?_)
                    · have hw := hw.1 c60
                      refine v_iload (pc2 := 854) S 10 dL_act_852 rfl rfl ?_
                      refine v_icmp_ne (pc2 := 857) (tgt := 862) S dL_act_854 (by decide) rfl (fun c61 => ?_) (fun c61 => ?_)
                      · have hw := hw.1 c61
                        refine v_bipush (v := -9) (pc2 := 864) S dL_act_862 (by decide) rfl ?_
                        exact v_iret S ⟨(-9 : Int32), u50, rfl, rfl, hw⟩ dL_act_864
                      · have hw := hw.2 c61
                        refine v_iload (pc2 := 859) S 12 dL_act_857 rfl rfl ?_
                        refine v_goto (tgt := 864) S dL_act_859 (by decide) ?_
                        exact v_iret S ⟨r49, u50, rfl, rfl, hw⟩ dL_act_864
                    · have hw := hw.2 c60
                      refine v_iload (pc2 := 849) S 9 dL_act_847 rfl rfl ?_
                      refine v_goto (tgt := 854) S dL_act_849 (by decide) ?_
                      refine v_icmp_ne (pc2 := 857) (tgt := 862) S dL_act_854 (by decide) rfl (fun c62 => ?_) (fun c62 => ?_)
                      · have hw := hw.1 c62
                        refine v_bipush (v := -9) (pc2 := 864) S dL_act_862 (by decide) rfl ?_
                        exact v_iret S ⟨(-9 : Int32), u50, rfl, rfl, hw⟩ dL_act_864
                      · have hw := hw.2 c62
                        refine v_iload (pc2 := 859) S 12 dL_act_857 rfl rfl ?_
                        refine v_goto (tgt := 864) S dL_act_859 (by decide) ?_
                        exact v_iret S ⟨r49, u50, rfl, rfl, hw⟩ dL_act_864
              · have hw := hw.2 c51
                refine v_iload (pc2 := 788) S 12 dL_act_786 rfl rfl ?_
                refine v_bipush (v := -2) (pc2 := 790) S dL_act_788 (by decide) rfl ?_
                refine v_icmp_ne (pc2 := 793) (tgt := 798) S dL_act_790 (by decide) rfl (fun c63 => ?_) (fun c63 => ?_)
                · have hw := hw.1 c63
                  refine v_bipush (v := -9) (pc2 := 800) S dL_act_798 (by decide) rfl ?_
                  refine v_goto (tgt := 864) S dL_act_800 (by decide) ?_
                  exact v_iret S ⟨(-9 : Int32), u50, rfl, rfl, hw⟩ dL_act_864
                · have hw := hw.2 c63
                  refine v_iload (pc2 := 795) S 12 dL_act_793 rfl rfl ?_
                  refine v_goto (tgt := 864) S dL_act_795 (by decide) ?_
                  exact v_iret S ⟨r49, u50, rfl, rfl, hw⟩ dL_act_864
          · have hw := hw.2 c18
            refine v_iload_n (pc2 := 509) S 2 dL_act_508 rfl rfl rfl ?_
            refine v_bipush (v := 10) (pc2 := 511) S dL_act_509 (by decide) rfl ?_
            refine v_idiv (pc2 := 512) S (by decide) dL_act_511 rfl ?_
            refine v_iconst (v := 2) (pc2 := 513) S dL_act_512 (by decide) rfl ?_
            refine v_irem (pc2 := 514) S (by decide) dL_act_513 rfl ?_
            refine v_if_ne (pc2 := 517) (tgt := 521) S dL_act_514 (by decide) rfl (fun c64 => ?_) (fun c64 => ?_)
            · have hw := hw.1 c64
              refine v_iconst (v := 0) (pc2 := 522) S dL_act_521 (by decide) rfl ?_
              refine v_lv [(0, .ref a0.1), (3, .int x3), (4, .int x4), (8, .int t0)] [0, 2, 3, 7] rfl ?_
              exact B522 x3 x4 t0 (0 : Int32) w0 hw
            · have hw := hw.2 c64
              refine v_iconst (v := 1) (pc2 := 518) S dL_act_517 (by decide) rfl ?_
              refine v_goto (tgt := 522) S dL_act_518 (by decide) ?_
              refine v_lv [(0, .ref a0.1), (3, .int x3), (4, .int x4), (8, .int t0)] [0, 2, 3, 7] rfl ?_
              exact B522 x3 x4 t0 (1 : Int32) w0 hw
        · have hw := hw.2 c17
          refine v_aload_n (pc2 := 370) S 0 dL_act_369 rfl rfl rfl ?_
          refine v_iload (pc2 := 372) S 3 dL_act_370 rfl rfl ?_
          refine v_iconst (v := 1) (pc2 := 373) S dL_act_372 (by decide) rfl ?_
          refine v_callV (pc2 := 376) (As := [.int x4, .int (1 : Int32)]) (rest := []) S (c_X8_door l G a0 w0 x4 (1 : Int32) _ hw) mf_X8_door u_484 u_485 u_486 0 8 rfl rfl rfl rfl ⟨rfl, rfl⟩ ⟨Nat.le_of_ble_eq_true rfl, Nat.le_of_ble_eq_true rfl⟩ ⟨Nat.le_of_ble_eq_true rfl, Nat.le_of_ble_eq_true rfl⟩ (Nat.le_of_ble_eq_true rfl) dL_act_373 (frW _) rfl (pi (fun r96 u97 hw => ?_))
          refine v_to (wCD G a0 w0.1 w0.2.1 w0.2.2.1 w0.2.2.2.1 w0.2.2.2.2.1 w0.2.2.2.2.2.1 w0.2.2.2.2.2.2) 376 [(0, .ref a0.1), (2, .int x2), (3, .int x3), (4, .int x4), (5, .int x5), (6, .int x6), (7, .int x7), (8, .int t0), (9, .int r13)] _ [.int r96] rfl rfl rfl rfl ?_
          refine v_aload_n (pc2 := 377) S 0 dL_act_376 rfl rfl rfl ?_
          refine v_iload (pc2 := 379) S 3 dL_act_377 rfl rfl ?_
          refine v_iconst (v := 2) (pc2 := 380) S dL_act_379 (by decide) rfl ?_
          refine v_callV (pc2 := 383) (As := [.int x4, .int (2 : Int32)]) (rest := [.int r96]) S (c_X8_door l G a0 w0 x4 (2 : Int32) _ hw) mf_X8_door u_484 u_485 u_486 0 8 rfl rfl rfl rfl ⟨rfl, rfl⟩ ⟨Nat.le_of_ble_eq_true rfl, Nat.le_of_ble_eq_true rfl⟩ ⟨Nat.le_of_ble_eq_true rfl, Nat.le_of_ble_eq_true rfl⟩ (Nat.le_of_ble_eq_true rfl) dL_act_380 (frW _) rfl (pi (fun r98 u99 hw => ?_))
          refine v_to (wCD G a0 w0.1 w0.2.1 w0.2.2.1 w0.2.2.2.1 w0.2.2.2.2.1 w0.2.2.2.2.2.1 w0.2.2.2.2.2.2) 383 [(0, .ref a0.1), (2, .int x2), (3, .int x3), (4, .int x4), (5, .int x5), (6, .int x6), (7, .int x7), (8, .int t0), (9, .int r13)] _ [.int r98, .int r96] rfl rfl rfl rfl ?_
          refine v_iadd (pc2 := 384) S dL_act_383 rfl ?_
          refine v_iload (pc2 := 386) S 5 dL_act_384 rfl rfl ?_
          refine v_isub (pc2 := 387) S dL_act_386 rfl ?_
          refine v_nm (fun z100 ez100 => ?_)
          have hw := hw z100 ez100
          refine v_istore (lv2 := [(0, .ref a0.1), (2, .int x2), (3, .int x3), (4, .int x4), (5, .int x5), (6, .int x6), (7, .int x7), (8, .int t0), (9, .int r13), (10, .int z100)]) (pc2 := 389) S dL_act_387 (by decide) [1, 2, 3, 4, 5, 6, 7, 8, 9, 0] rfl rfl ?_
          refine v_aload_n (pc2 := 390) S 0 dL_act_389 rfl rfl rfl ?_
          refine v_iload (pc2 := 392) S 4 dL_act_390 rfl rfl ?_
          refine v_iconst (v := 3) (pc2 := 393) S dL_act_392 (by decide) rfl ?_
          refine v_callV (pc2 := 396) (As := [.int x5, .int (3 : Int32)]) (rest := []) S (c_X8_guest l G a0 w0 x5 (3 : Int32) _ hw) mf_X8_guest u_252 u_253 u_254 0 8 rfl rfl rfl rfl ⟨rfl, rfl⟩ ⟨Nat.le_of_ble_eq_true rfl, Nat.le_of_ble_eq_true rfl⟩ ⟨Nat.le_of_ble_eq_true rfl, Nat.le_of_ble_eq_true rfl⟩ (Nat.le_of_ble_eq_true rfl) dL_act_393 (frW _) rfl (pi (fun r101 u102 hw => ?_))
          refine v_to (wCD G a0 w0.1 w0.2.1 w0.2.2.1 w0.2.2.2.1 w0.2.2.2.2.1 w0.2.2.2.2.2.1 w0.2.2.2.2.2.2) 396 [(0, .ref a0.1), (2, .int x2), (3, .int x3), (4, .int x4), (5, .int x5), (6, .int x6), (7, .int x7), (8, .int t0), (9, .int r13), (10, .int z100)] _ [.int r101] rfl rfl rfl rfl ?_
          refine v_istore (lv2 := [(0, .ref a0.1), (2, .int x2), (3, .int x3), (4, .int x4), (5, .int x5), (6, .int x6), (7, .int x7), (8, .int t0), (9, .int r13), (10, .int z100), (11, .int r101)]) (pc2 := 398) S dL_act_396 (by decide) [1, 2, 3, 4, 5, 6, 7, 8, 9, 10, 0] rfl rfl ?_
          refine v_iload (pc2 := 400) S 6 dL_act_398 rfl rfl ?_
          refine v_if_eq (pc2 := 403) (tgt := 416) S dL_act_400 (by decide) rfl (fun c103 => ?_) (fun c103 => ?_)
          · have hw := hw.1 c103
            refine v_iconst (v := 5) (pc2 := 417) S dL_act_416 (by decide) rfl ?_
            refine v_lv [(0, .ref a0.1), (4, .int x4), (5, .int x5), (6, .int x6), (10, .int z100), (11, .int r101)] [0, 3, 4, 5, 9, 10] rfl ?_
            exact B417 x4 x5 x6 z100 r101 (5 : Int32) w0 hw
          · have hw := hw.2 c103
            refine v_iload (pc2 := 405) S 7 dL_act_403 rfl rfl ?_
            refine v_if_eq (pc2 := 408) (tgt := 412) S dL_act_405 (by decide) rfl (fun c117 => ?_) (fun c117 => ?_)
            · have hw := hw.1 c117
              refine v_iconst (v := 3) (pc2 := 413) S dL_act_412 (by decide) rfl ?_
              refine v_goto (tgt := 417) S dL_act_413 (by decide) ?_
              refine v_lv [(0, .ref a0.1), (4, .int x4), (5, .int x5), (6, .int x6), (10, .int z100), (11, .int r101)] [0, 3, 4, 5, 9, 10] rfl ?_
              exact B417 x4 x5 x6 z100 r101 (3 : Int32) w0 hw
            · have hw := hw.2 c117
              refine v_iconst (v := 0) (pc2 := 409) S dL_act_408 (by decide) rfl ?_
              refine v_goto (tgt := 417) S dL_act_409 (by decide) ?_
              refine v_lv [(0, .ref a0.1), (4, .int x4), (5, .int x5), (6, .int x6), (10, .int z100), (11, .int r101)] [0, 3, 4, 5, 9, 10] rfl ?_
              exact B417 x4 x5 x6 z100 r101 (0 : Int32) w0 hw
      · have hw := hw.2 c16
        refine v_iload_n (pc2 := 251) S 1 dL_act_250 rfl rfl rfl ?_
        refine v_bipush (v := 7) (pc2 := 253) S dL_act_251 (by decide) rfl ?_
        refine v_icmp_ne (pc2 := 256) (tgt := 260) S dL_act_253 (by decide) rfl (fun c118 => ?_) (fun c118 => ?_)
        · have hw := hw.1 c118
          refine v_iconst (v := 0) (pc2 := 261) S dL_act_260 (by decide) rfl ?_
          refine v_lv [(0, .ref a0.1), (4, .int x4), (5, .int x5), (7, .int x7), (8, .int t0), (9, .int r13)] [0, 3, 4, 6, 7, 8] rfl ?_
          exact B261 x4 x5 x7 t0 r13 (0 : Int32) w0 hw
        · have hw := hw.2 c118
          refine v_iconst (v := 1) (pc2 := 257) S dL_act_256 (by decide) rfl ?_
          refine v_goto (tgt := 261) S dL_act_257 (by decide) ?_
          refine v_lv [(0, .ref a0.1), (4, .int x4), (5, .int x5), (7, .int x7), (8, .int t0), (9, .int r13)] [0, 3, 4, 6, 7, 8] rfl ?_
          exact B261 x4 x5 x7 t0 r13 (1 : Int32) w0 hw
    · have hw := hw.2 c15
      refine v_iload_n (pc2 := 96) S 1 dL_act_95 rfl rfl rfl ?_
      refine v_iconst (v := 4) (pc2 := 97) S dL_act_96 (by decide) rfl ?_
      refine v_icmp_ge (pc2 := 100) (tgt := 104) S dL_act_97 (by decide) rfl (fun c134 => ?_) (fun c134 => ?_)
      · have hw := hw.1 c134
        refine v_iconst (v := 0) (pc2 := 105) S dL_act_104 (by decide) rfl ?_
        refine v_lv [(0, .ref a0.1), (4, .int x4), (5, .int x5), (7, .int x7), (9, .int r13)] [0, 3, 4, 6, 8] rfl ?_
        exact B105 x4 x5 x7 r13 (0 : Int32) w0 hw
      · have hw := hw.2 c134
        refine v_iconst (v := 1) (pc2 := 101) S dL_act_100 (by decide) rfl ?_
        refine v_goto (tgt := 105) S dL_act_101 (by decide) ?_
        refine v_lv [(0, .ref a0.1), (4, .int x4), (5, .int x5), (7, .int x7), (9, .int r13)] [0, 3, 4, 6, 8] rfl ?_
        exact B105 x4 x5 x7 r13 (1 : Int32) w0 hw
  have B62 : ∀ (x2 : Int32) (x3 : Int32) (x4 : Int32) (x5 : Int32) (x6 : Int32) (t0 : Int32) (w0 : CDV), wp_L_act_B62 x2 x3 x4 x5 x6 t0 w0 Q → V p l e { frames := 6, cells := 0, slots := 0, locals := 147 } s m args below meth c G (va_A (wCD G a0 v0.1 v0.2.1 v0.2.2.1 v0.2.2.2.1 v0.2.2.2.2.1 v0.2.2.2.2.2.1 v0.2.2.2.2.2.2) s.heap.size) 16 0 0 (MQ below (EQ G (wCD G a0 v0.1 v0.2.1 v0.2.2.1 v0.2.2.2.1 v0.2.2.2.2.1 v0.2.2.2.2.2.1 v0.2.2.2.2.2.2) s.heap.size (PI (fun u : CDV => wCD G a0 u.1 u.2.1 u.2.2.1 u.2.2.2.1 u.2.2.2.2.1 u.2.2.2.2.2.1 u.2.2.2.2.2.2) Q)) args s 0 0 (va_A (wCD G a0 v0.1 v0.2.1 v0.2.2.1 v0.2.2.2.1 v0.2.2.2.2.1 v0.2.2.2.2.2.1 v0.2.2.2.2.2.2) s.heap.size)) (wCD G a0 w0.1 w0.2.1 w0.2.2.1 w0.2.2.2.1 w0.2.2.2.2.1 w0.2.2.2.2.2.1 w0.2.2.2.2.2.2) 62 [(0, .ref a0.1), (2, .int x2), (3, .int x3), (4, .int x4), (5, .int x5), (6, .int x6)] [.int t0] := by
    intro x2 x3 x4 x5 x6 t0 w0 hw
    refine v_istore (lv2 := [(0, .ref a0.1), (2, .int x2), (3, .int x3), (4, .int x4), (5, .int x5), (6, .int x6), (7, .int t0)]) (pc2 := 64) S dL_act_62 (by decide) [1, 2, 3, 4, 5, 6, 0] rfl rfl ?_
    refine v_aload_n (pc2 := 65) S 0 dL_act_64 rfl rfl rfl ?_
    refine v_iload (pc2 := 67) S 3 dL_act_65 rfl rfl ?_
    refine v_iconst (v := 0) (pc2 := 68) S dL_act_67 (by decide) rfl ?_
    refine v_callV (pc2 := 71) (As := [.int x4, .int (0 : Int32)]) (rest := []) S (c_X8_door l G a0 w0 x4 (0 : Int32) _ hw) mf_X8_door u_484 u_485 u_486 0 8 rfl rfl rfl rfl ⟨rfl, rfl⟩ ⟨Nat.le_of_ble_eq_true rfl, Nat.le_of_ble_eq_true rfl⟩ ⟨Nat.le_of_ble_eq_true rfl, Nat.le_of_ble_eq_true rfl⟩ (Nat.le_of_ble_eq_true rfl) dL_act_68 (frW _) rfl (pi (fun r10 u11 hw => ?_))
    refine v_to (wCD G a0 w0.1 w0.2.1 w0.2.2.1 w0.2.2.2.1 w0.2.2.2.2.1 w0.2.2.2.2.2.1 w0.2.2.2.2.2.2) 71 [(0, .ref a0.1), (2, .int x2), (3, .int x3), (4, .int x4), (5, .int x5), (6, .int x6), (7, .int t0)] _ [.int r10] rfl rfl rfl rfl ?_
    refine v_iconst (v := 1) (pc2 := 72) S dL_act_71 (by decide) rfl ?_
    refine v_icmp_ne (pc2 := 75) (tgt := 79) S dL_act_72 (by decide) rfl (fun c12 => ?_) (fun c12 => ?_)
    · have hw := hw.1 c12
      refine v_iconst (v := 0) (pc2 := 80) S dL_act_79 (by decide) rfl ?_
      exact B80 x2 x3 x4 x5 x6 t0 (0 : Int32) w0 hw
    · have hw := hw.2 c12
      refine v_iconst (v := 1) (pc2 := 76) S dL_act_75 (by decide) rfl ?_
      refine v_goto (tgt := 80) S dL_act_76 (by decide) ?_
      exact B80 x2 x3 x4 x5 x6 t0 (1 : Int32) w0 hw
  have B57 : ∀ (x2 : Int32) (x3 : Int32) (x4 : Int32) (x5 : Int32) (x6 : Int32) (w0 : CDV), wp_L_act_B57 x2 x3 x4 x5 x6 w0 Q → V p l e { frames := 6, cells := 0, slots := 0, locals := 147 } s m args below meth c G (va_A (wCD G a0 v0.1 v0.2.1 v0.2.2.1 v0.2.2.2.1 v0.2.2.2.2.1 v0.2.2.2.2.2.1 v0.2.2.2.2.2.2) s.heap.size) 16 0 0 (MQ below (EQ G (wCD G a0 v0.1 v0.2.1 v0.2.2.1 v0.2.2.2.1 v0.2.2.2.2.1 v0.2.2.2.2.2.1 v0.2.2.2.2.2.2) s.heap.size (PI (fun u : CDV => wCD G a0 u.1 u.2.1 u.2.2.1 u.2.2.2.1 u.2.2.2.2.1 u.2.2.2.2.2.1 u.2.2.2.2.2.2) Q)) args s 0 0 (va_A (wCD G a0 v0.1 v0.2.1 v0.2.2.1 v0.2.2.2.1 v0.2.2.2.2.1 v0.2.2.2.2.2.1 v0.2.2.2.2.2.2) s.heap.size)) (wCD G a0 w0.1 w0.2.1 w0.2.2.1 w0.2.2.2.1 w0.2.2.2.2.1 w0.2.2.2.2.2.1 w0.2.2.2.2.2.2) 57 [(0, .ref a0.1), (2, .int x2), (3, .int x3), (4, .int x4), (5, .int x5), (6, .int x6)] [] := by
    intro x2 x3 x4 x5 x6 w0 hw
    refine v_iconst (v := 1) (pc2 := 58) S dL_act_57 (by decide) rfl ?_
    refine v_goto (tgt := 62) S dL_act_58 (by decide) ?_
    exact B62 x2 x3 x4 x5 x6 (1 : Int32) w0 hw
  refine v_iload_n (pc2 := 1) S 1 dL_act_0 rfl rfl rfl ?_
  refine v_bipush (v := 16) (pc2 := 3) S dL_act_1 (by decide) rfl ?_
  refine v_irem (pc2 := 4) S (by decide) dL_act_3 rfl ?_
  refine v_nm (fun z1 ez1 => ?_)
  have hw := hw z1 ez1
  refine v_istore_n (lv2 := [(0, .ref a0.1), (1, .int i0), (2, .int z1)]) (pc2 := 5) S dL_act_4 rfl (by decide) [1, 2, 0] rfl rfl ?_
  refine v_iload_n (pc2 := 6) S 1 dL_act_5 rfl rfl rfl ?_
  refine v_bipush (v := 16) (pc2 := 8) S dL_act_6 (by decide) rfl ?_
  refine v_idiv (pc2 := 9) S (by decide) dL_act_8 rfl ?_
  refine v_nm (fun z2 ez2 => ?_)
  have hw := hw z2 ez2
  refine v_istore_n (lv2 := [(0, .ref a0.1), (1, .int i0), (2, .int z1), (3, .int z2)]) (pc2 := 10) S dL_act_9 rfl (by decide) [1, 2, 3, 0] rfl rfl ?_
  refine v_iload_n (pc2 := 11) S 3 dL_act_10 rfl rfl rfl ?_
  refine v_bipush (v := 10) (pc2 := 13) S dL_act_11 (by decide) rfl ?_
  refine v_irem (pc2 := 14) S (by decide) dL_act_13 rfl ?_
  refine v_nm (fun z3 ez3 => ?_)
  have hw := hw z3 ez3
  refine v_istore (lv2 := [(0, .ref a0.1), (1, .int i0), (2, .int z1), (3, .int z2), (4, .int z3)]) (pc2 := 16) S dL_act_14 (by decide) [1, 2, 3, 4, 0] rfl rfl ?_
  refine v_iload_n (pc2 := 17) S 3 dL_act_16 rfl rfl rfl ?_
  refine v_bipush (v := 10) (pc2 := 19) S dL_act_17 (by decide) rfl ?_
  refine v_idiv (pc2 := 20) S (by decide) dL_act_19 rfl ?_
  refine v_iconst (v := 3) (pc2 := 21) S dL_act_20 (by decide) rfl ?_
  refine v_irem (pc2 := 22) S (by decide) dL_act_21 rfl ?_
  refine v_nm (fun z4 ez4 => ?_)
  have hw := hw z4 ez4
  refine v_istore (lv2 := [(0, .ref a0.1), (1, .int i0), (2, .int z1), (3, .int z2), (4, .int z3), (5, .int z4)]) (pc2 := 24) S dL_act_22 (by decide) [1, 2, 3, 4, 5, 0] rfl rfl ?_
  refine v_aload_n (pc2 := 25) S 0 dL_act_24 rfl rfl rfl ?_
  refine v_iload (pc2 := 27) S 5 dL_act_25 rfl rfl ?_
  refine v_iconst (v := 0) (pc2 := 28) S dL_act_27 (by decide) rfl ?_
  refine v_callV (pc2 := 31) (As := [.int z4, .int (0 : Int32)]) (rest := []) S (c_X8_guest l G a0 v0 z4 (0 : Int32) _ hw) mf_X8_guest u_252 u_253 u_254 0 8 rfl rfl rfl rfl ⟨rfl, rfl⟩ ⟨Nat.le_of_ble_eq_true rfl, Nat.le_of_ble_eq_true rfl⟩ ⟨Nat.le_of_ble_eq_true rfl, Nat.le_of_ble_eq_true rfl⟩ (Nat.le_of_ble_eq_true rfl) dL_act_28 (frW _) rfl (pi (fun r5 u6 hw => ?_))
  refine v_to (wCD G a0 v0.1 v0.2.1 v0.2.2.1 v0.2.2.2.1 v0.2.2.2.2.1 v0.2.2.2.2.2.1 v0.2.2.2.2.2.2) 31 [(0, .ref a0.1), (1, .int i0), (2, .int z1), (3, .int z2), (4, .int z3), (5, .int z4)] _ [.int r5] rfl rfl rfl rfl ?_
  refine v_istore (lv2 := [(0, .ref a0.1), (1, .int i0), (2, .int z1), (3, .int z2), (4, .int z3), (5, .int z4), (6, .int r5)]) (pc2 := 33) S dL_act_31 (by decide) [1, 2, 3, 4, 5, 6, 0] rfl rfl ?_
  refine v_aload_n (pc2 := 34) S 0 dL_act_33 rfl rfl rfl ?_
  refine v_iload (pc2 := 36) S 4 dL_act_34 rfl rfl ?_
  refine v_iconst (v := 1) (pc2 := 37) S dL_act_36 (by decide) rfl ?_
  refine v_callV (pc2 := 40) (As := [.int z3, .int (1 : Int32)]) (rest := []) S (c_X8_door l G a0 v0 z3 (1 : Int32) _ hw) mf_X8_door u_484 u_485 u_486 0 8 rfl rfl rfl rfl ⟨rfl, rfl⟩ ⟨Nat.le_of_ble_eq_true rfl, Nat.le_of_ble_eq_true rfl⟩ ⟨Nat.le_of_ble_eq_true rfl, Nat.le_of_ble_eq_true rfl⟩ (Nat.le_of_ble_eq_true rfl) dL_act_37 (frW _) rfl (pi (fun r7 u8 hw => ?_))
  refine v_to (wCD G a0 v0.1 v0.2.1 v0.2.2.1 v0.2.2.2.1 v0.2.2.2.2.1 v0.2.2.2.2.2.1 v0.2.2.2.2.2.2) 40 [(0, .ref a0.1), (1, .int i0), (2, .int z1), (3, .int z2), (4, .int z3), (5, .int z4), (6, .int r5)] _ [.int r7] rfl rfl rfl rfl ?_
  refine v_iload (pc2 := 42) S 6 dL_act_40 rfl rfl ?_
  refine v_icmp_eq (pc2 := 45) (tgt := 57) S dL_act_42 (by decide) rfl (fun c9 => ?_) (fun c9 => ?_)
  · have hw := hw.1 c9
    refine v_lv [(0, .ref a0.1), (2, .int z1), (3, .int z2), (4, .int z3), (5, .int z4), (6, .int r5)] [0, 2, 3, 4, 5, 6] rfl ?_
    exact B57 z1 z2 z3 z4 r5 v0 hw
  · have hw := hw.2 c9
    refine v_aload_n (pc2 := 46) S 0 dL_act_45 rfl rfl rfl ?_
    refine v_iload (pc2 := 48) S 4 dL_act_46 rfl rfl ?_
    refine v_iconst (v := 2) (pc2 := 49) S dL_act_48 (by decide) rfl ?_
    refine v_callV (pc2 := 52) (As := [.int z3, .int (2 : Int32)]) (rest := []) S (c_X8_door l G a0 v0 z3 (2 : Int32) _ hw) mf_X8_door u_484 u_485 u_486 0 8 rfl rfl rfl rfl ⟨rfl, rfl⟩ ⟨Nat.le_of_ble_eq_true rfl, Nat.le_of_ble_eq_true rfl⟩ ⟨Nat.le_of_ble_eq_true rfl, Nat.le_of_ble_eq_true rfl⟩ (Nat.le_of_ble_eq_true rfl) dL_act_49 (frW _) rfl (pi (fun r161 u162 hw => ?_))
    refine v_to (wCD G a0 v0.1 v0.2.1 v0.2.2.1 v0.2.2.2.1 v0.2.2.2.2.1 v0.2.2.2.2.2.1 v0.2.2.2.2.2.2) 52 [(0, .ref a0.1), (1, .int i0), (2, .int z1), (3, .int z2), (4, .int z3), (5, .int z4), (6, .int r5)] _ [.int r161] rfl rfl rfl rfl ?_
    refine v_iload (pc2 := 54) S 6 dL_act_52 rfl rfl ?_
    refine v_icmp_ne (pc2 := 57) (tgt := 61) S dL_act_54 (by decide) rfl (fun c163 => ?_) (fun c163 => ?_)
    · have hw := hw.1 c163
      refine v_iconst (v := 0) (pc2 := 62) S dL_act_61 (by decide) rfl ?_
      refine v_lv [(0, .ref a0.1), (2, .int z1), (3, .int z2), (4, .int z3), (5, .int z4), (6, .int r5)] [0, 2, 3, 4, 5, 6] rfl ?_
      exact B62 z1 z2 z3 z4 r5 (0 : Int32) v0 hw
    · have hw := hw.2 c163
      refine v_lv [(0, .ref a0.1), (2, .int z1), (3, .int z2), (4, .int z3), (5, .int z4), (6, .int r5)] [0, 2, 3, 4, 5, 6] rfl ?_
      exact B57 z1 z2 z3 z4 r5 v0 hw
set_option maxHeartbeats 4000000 in
set_option maxRecDepth 100000 in
theorem c_L_isDeed (l : Launch) (G : GG) (i0 : Int32) (Q : Int32 → Prop) (hw : wp_L_isDeed i0 Q) : Con l G yL_isDeed cL_isDeed 1 (some .boolean) { frames := 0, cells := 0, slots := 0, locals := 0 } [.int i0] ([]) (PB (fun _ : Unit => []) (fun r _ => Q r)) 0 0 := by
  refine con_of RL rfl (by decide) [(0, .int i0)] rfl (Nat.le_of_ble_eq_true rfl) ?_
  intro p e s m args below meth c S hname
  refine v_iload_n (pc2 := 1) S 0 dL_isDeed_0 rfl rfl rfl ?_
  refine v_bipush (v := 16) (pc2 := 3) S dL_isDeed_1 (by decide) rfl ?_
  refine v_irem (pc2 := 4) S (by decide) dL_isDeed_3 rfl ?_
  refine v_bipush (v := 14) (pc2 := 6) S dL_isDeed_4 (by decide) rfl ?_
  refine v_icmp_ge (pc2 := 9) (tgt := 13) S dL_isDeed_6 (by decide) rfl (fun c1 => ?_) (fun c1 => ?_)
  · have hw := hw.1 c1
    refine v_iconst (v := 0) (pc2 := 14) S dL_isDeed_13 (by decide) rfl ?_
    exact v_zret S (by decide) ⟨(0 : Int32), (), rfl, (by decide), rfl, hw⟩ dL_isDeed_14
  · have hw := hw.2 c1
    refine v_iconst (v := 1) (pc2 := 10) S dL_isDeed_9 (by decide) rfl ?_
    refine v_goto (tgt := 14) S dL_isDeed_10 (by decide) ?_
    exact v_zret S (by decide) ⟨(1 : Int32), (), rfl, (by decide), rfl, hw⟩ dL_isDeed_14
