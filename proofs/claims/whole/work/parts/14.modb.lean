set_option maxHeartbeats 4000000 in
set_option maxRecDepth 100000 in
theorem c_X9_lesserHall (l : Launch) (G : GG) (a0 : ModA) (v0 : ModV) (i0 : Int32) (Q : Int32 → Prop) (hw : wp_X9_lesserHall v0 i0 Q) : Con l G yX9_lesserHall cX9_lesserHall 2 (some .int) { frames := 1, cells := 0, slots := 0, locals := 22 } [.ref a0.1, .int i0] (wMod G a0 v0) (PI (fun _ : Unit => wMod G a0 v0) (fun r _ => Q r)) 0 0 := by
  refine con_of RX9 rfl (by decide) [(0, .ref a0.1), (1, .int i0)] rfl (Nat.le_of_ble_eq_true rfl) ?_
  intro p e s m args below meth c S hname
  refine v_aload_n (pc2 := 1) S 0 dX9_lesserHall_0 rfl rfl rfl ?_
  refine v_iload_n (pc2 := 2) S 1 dX9_lesserHall_1 rfl rfl rfl ?_
  refine v_iconst (v := 1) (pc2 := 3) S dX9_lesserHall_2 (by decide) rfl ?_
  refine v_callV (pc2 := 6) (As := [.int i0, .int (1 : Int32)]) (rest := []) S (c_X9_of l G a0 v0 i0 (1 : Int32) _ hw) mf_X9_of u_818 u_820 u_18 0 9 rfl rfl rfl rfl ⟨rfl, rfl⟩ ⟨Nat.le_of_ble_eq_true rfl, Nat.le_of_ble_eq_true rfl⟩ ⟨Nat.le_of_ble_eq_true rfl, Nat.le_of_ble_eq_true rfl⟩ (Nat.le_of_ble_eq_true rfl) dX9_lesserHall_3 (frW _) rfl (pi (fun r1 u2 hw => ?_))
  refine v_to (wMod G a0 v0) 6 [(0, .ref a0.1), (1, .int i0)] _ [.int r1] rfl rfl rfl rfl ?_
  refine v_aload_n (pc2 := 7) S 0 dX9_lesserHall_6 rfl rfl rfl ?_
  refine v_iload_n (pc2 := 8) S 1 dX9_lesserHall_7 rfl rfl rfl ?_
  refine v_iconst (v := 2) (pc2 := 9) S dX9_lesserHall_8 (by decide) rfl ?_
  refine v_callV (pc2 := 12) (As := [.int i0, .int (2 : Int32)]) (rest := [.int r1]) S (c_X9_of l G a0 v0 i0 (2 : Int32) _ hw) mf_X9_of u_818 u_820 u_18 0 9 rfl rfl rfl rfl ⟨rfl, rfl⟩ ⟨Nat.le_of_ble_eq_true rfl, Nat.le_of_ble_eq_true rfl⟩ ⟨Nat.le_of_ble_eq_true rfl, Nat.le_of_ble_eq_true rfl⟩ (Nat.le_of_ble_eq_true rfl) dX9_lesserHall_9 (frW _) rfl (pi (fun r3 u4 hw => ?_))
  refine v_to (wMod G a0 v0) 12 [(0, .ref a0.1), (1, .int i0)] _ [.int r3, .int r1] rfl rfl rfl rfl ?_
  refine v_icmp_ge (pc2 := 15) (tgt := 24) S dX9_lesserHall_12 (by decide) rfl (fun c5 => ?_) (fun c5 => ?_)
  · have hw := hw.1 c5
    refine v_aload_n (pc2 := 25) S 0 dX9_lesserHall_24 rfl rfl rfl ?_
    refine v_iload_n (pc2 := 26) S 1 dX9_lesserHall_25 rfl rfl rfl ?_
    refine v_iconst (v := 2) (pc2 := 27) S dX9_lesserHall_26 (by decide) rfl ?_
    refine v_callV (pc2 := 30) (As := [.int i0, .int (2 : Int32)]) (rest := []) S (c_X9_of l G a0 v0 i0 (2 : Int32) _ hw) mf_X9_of u_818 u_820 u_18 0 9 rfl rfl rfl rfl ⟨rfl, rfl⟩ ⟨Nat.le_of_ble_eq_true rfl, Nat.le_of_ble_eq_true rfl⟩ ⟨Nat.le_of_ble_eq_true rfl, Nat.le_of_ble_eq_true rfl⟩ (Nat.le_of_ble_eq_true rfl) dX9_lesserHall_27 (frW _) rfl (pi (fun r6 u7 hw => ?_))
    refine v_to (wMod G a0 v0) 30 [(0, .ref a0.1), (1, .int i0)] _ [.int r6] rfl rfl rfl rfl ?_
    exact v_iret S ⟨r6, (), rfl, rfl, hw⟩ dX9_lesserHall_30
  · have hw := hw.2 c5
    refine v_aload_n (pc2 := 16) S 0 dX9_lesserHall_15 rfl rfl rfl ?_
    refine v_iload_n (pc2 := 17) S 1 dX9_lesserHall_16 rfl rfl rfl ?_
    refine v_iconst (v := 1) (pc2 := 18) S dX9_lesserHall_17 (by decide) rfl ?_
    refine v_callV (pc2 := 21) (As := [.int i0, .int (1 : Int32)]) (rest := []) S (c_X9_of l G a0 v0 i0 (1 : Int32) _ hw) mf_X9_of u_818 u_820 u_18 0 9 rfl rfl rfl rfl ⟨rfl, rfl⟩ ⟨Nat.le_of_ble_eq_true rfl, Nat.le_of_ble_eq_true rfl⟩ ⟨Nat.le_of_ble_eq_true rfl, Nat.le_of_ble_eq_true rfl⟩ (Nat.le_of_ble_eq_true rfl) dX9_lesserHall_18 (frW _) rfl (pi (fun r8 u9 hw => ?_))
    refine v_to (wMod G a0 v0) 21 [(0, .ref a0.1), (1, .int i0)] _ [.int r8] rfl rfl rfl rfl ?_
    refine v_goto (tgt := 30) S dX9_lesserHall_21 (by decide) ?_
    exact v_iret S ⟨r8, (), rfl, rfl, hw⟩ dX9_lesserHall_30
set_option maxHeartbeats 4000000 in
set_option maxRecDepth 100000 in
theorem c_X9_greaterHall (l : Launch) (G : GG) (a0 : ModA) (v0 : ModV) (i0 : Int32) (Q : Int32 → Prop) (hw : wp_X9_greaterHall v0 i0 Q) : Con l G yX9_greaterHall cX9_greaterHall 2 (some .int) { frames := 2, cells := 0, slots := 0, locals := 43 } [.ref a0.1, .int i0] (wMod G a0 v0) (PI (fun _ : Unit => wMod G a0 v0) (fun r _ => Q r)) 0 0 := by
  refine con_of RX9 rfl (by decide) [(0, .ref a0.1), (1, .int i0)] rfl (Nat.le_of_ble_eq_true rfl) ?_
  intro p e s m args below meth c S hname
  refine v_aload_n (pc2 := 1) S 0 dX9_greaterHall_0 rfl rfl rfl ?_
  refine v_iload_n (pc2 := 2) S 1 dX9_greaterHall_1 rfl rfl rfl ?_
  refine v_iconst (v := 1) (pc2 := 3) S dX9_greaterHall_2 (by decide) rfl ?_
  refine v_callV (pc2 := 6) (As := [.int i0, .int (1 : Int32)]) (rest := []) S (c_X9_of l G a0 v0 i0 (1 : Int32) _ hw) mf_X9_of u_818 u_820 u_18 0 9 rfl rfl rfl rfl ⟨rfl, rfl⟩ ⟨Nat.le_of_ble_eq_true rfl, Nat.le_of_ble_eq_true rfl⟩ ⟨Nat.le_of_ble_eq_true rfl, Nat.le_of_ble_eq_true rfl⟩ (Nat.le_of_ble_eq_true rfl) dX9_greaterHall_3 (frW _) rfl (pi (fun r1 u2 hw => ?_))
  refine v_to (wMod G a0 v0) 6 [(0, .ref a0.1), (1, .int i0)] _ [.int r1] rfl rfl rfl rfl ?_
  refine v_aload_n (pc2 := 7) S 0 dX9_greaterHall_6 rfl rfl rfl ?_
  refine v_iload_n (pc2 := 8) S 1 dX9_greaterHall_7 rfl rfl rfl ?_
  refine v_iconst (v := 2) (pc2 := 9) S dX9_greaterHall_8 (by decide) rfl ?_
  refine v_callV (pc2 := 12) (As := [.int i0, .int (2 : Int32)]) (rest := [.int r1]) S (c_X9_of l G a0 v0 i0 (2 : Int32) _ hw) mf_X9_of u_818 u_820 u_18 0 9 rfl rfl rfl rfl ⟨rfl, rfl⟩ ⟨Nat.le_of_ble_eq_true rfl, Nat.le_of_ble_eq_true rfl⟩ ⟨Nat.le_of_ble_eq_true rfl, Nat.le_of_ble_eq_true rfl⟩ (Nat.le_of_ble_eq_true rfl) dX9_greaterHall_9 (frW _) rfl (pi (fun r3 u4 hw => ?_))
  refine v_to (wMod G a0 v0) 12 [(0, .ref a0.1), (1, .int i0)] _ [.int r3, .int r1] rfl rfl rfl rfl ?_
  refine v_iadd (pc2 := 13) S dX9_greaterHall_12 rfl ?_
  refine v_aload_n (pc2 := 14) S 0 dX9_greaterHall_13 rfl rfl rfl ?_
  refine v_iload_n (pc2 := 15) S 1 dX9_greaterHall_14 rfl rfl rfl ?_
  refine v_callV (pc2 := 18) (As := [.int i0]) (rest := [.int (r1 + r3)]) S (c_X9_lesserHall l G a0 v0 i0 _ hw) mf_X9_lesserHall u_946 u_948 u_39 0 9 rfl rfl rfl rfl ⟨rfl, rfl⟩ ⟨Nat.le_of_ble_eq_true rfl, Nat.le_of_ble_eq_true rfl⟩ ⟨Nat.le_of_ble_eq_true rfl, Nat.le_of_ble_eq_true rfl⟩ (Nat.le_of_ble_eq_true rfl) dX9_greaterHall_15 (frW _) rfl (pi (fun r5 u6 hw => ?_))
  refine v_to (wMod G a0 v0) 18 [(0, .ref a0.1), (1, .int i0)] _ [.int r5, .int (r1 + r3)] rfl rfl rfl rfl ?_
  refine v_isub (pc2 := 19) S dX9_greaterHall_18 rfl ?_
  exact v_iret S ⟨(r1 + r3) - r5, (), rfl, rfl, hw⟩ dX9_greaterHall_19
set_option maxHeartbeats 4000000 in
set_option maxRecDepth 100000 in
theorem c_X9_join (l : Launch) (G : GG) (a0 : ModA) (v0 : ModV) (i0 : Int32) (i1 : Int32) (i2 : Int32) (Q : Int32 → ModV → Prop) (hw : wp_X9_join v0 i0 i1 i2 Q) : Con l G yX9_join cX9_join 5 (some .int) { frames := 3, cells := 0, slots := 0, locals := 64 } [.ref a0.1, .int i0, .int i1, .int i2] (wMod G a0 v0) (PI (fun u : ModV => wMod G a0 u) Q) 0 0 := by
  refine con_of RX9 rfl (by decide) [(0, .ref a0.1), (1, .int i0), (2, .int i1), (3, .int i2)] rfl (Nat.le_of_ble_eq_true rfl) ?_
  intro p e s m args below meth c S hname
  refine v_iload_n (pc2 := 1) S 1 dX9_join_0 rfl rfl rfl ?_
  refine v_callS (pc2 := 4) (As := [.int i0]) (rest := []) S (c_X9_isDoor l G i0 _ hw) mf_X9_isDoor u_834 u_835 rfl rfl ⟨rfl, rfl⟩ ⟨Nat.le_of_ble_eq_true rfl, Nat.le_of_ble_eq_true rfl⟩ ⟨Nat.le_of_ble_eq_true rfl, Nat.le_of_ble_eq_true rfl⟩ (Nat.le_of_ble_eq_true rfl) dX9_join_1 (frM [] [] _) rfl (pb (fun r1 u2 br1 hw => ?_))
  refine v_to (wMod G a0 v0) 4 [(0, .ref a0.1), (1, .int i0), (2, .int i1), (3, .int i2)] _ [.int r1] rfl rfl rfl rfl ?_
  refine v_if_eq (pc2 := 7) (tgt := 26) S dX9_join_4 (by decide) rfl (fun c3 => ?_) (fun c3 => ?_)
  · have hw := hw.1 c3
    refine v_iconst (v := -1) (pc2 := 27) S dX9_join_26 (by decide) rfl ?_
    exact v_iret S ⟨(-1 : Int32), v0, rfl, rfl, hw⟩ dX9_join_27
  · have hw := hw.2 c3
    refine v_iload_n (pc2 := 8) S 2 dX9_join_7 rfl rfl rfl ?_
    refine v_callS (pc2 := 11) (As := [.int i1]) (rest := []) S (c_X9_isHall l G i1 _ hw) mf_X9_isHall u_943 u_944 rfl rfl ⟨rfl, rfl⟩ ⟨Nat.le_of_ble_eq_true rfl, Nat.le_of_ble_eq_true rfl⟩ ⟨Nat.le_of_ble_eq_true rfl, Nat.le_of_ble_eq_true rfl⟩ (Nat.le_of_ble_eq_true rfl) dX9_join_8 (frM [] [] _) rfl (pb (fun r4 u5 br4 hw => ?_))
    refine v_to (wMod G a0 v0) 11 [(0, .ref a0.1), (1, .int i0), (2, .int i1), (3, .int i2)] _ [.int r4] rfl rfl rfl rfl ?_
    refine v_if_eq (pc2 := 14) (tgt := 26) S dX9_join_11 (by decide) rfl (fun c6 => ?_) (fun c6 => ?_)
    · have hw := hw.1 c6
      refine v_iconst (v := -1) (pc2 := 27) S dX9_join_26 (by decide) rfl ?_
      exact v_iret S ⟨(-1 : Int32), v0, rfl, rfl, hw⟩ dX9_join_27
    · have hw := hw.2 c6
      refine v_iload_n (pc2 := 15) S 3 dX9_join_14 rfl rfl rfl ?_
      refine v_callS (pc2 := 18) (As := [.int i2]) (rest := []) S (c_X9_isHall l G i2 _ hw) mf_X9_isHall u_943 u_944 rfl rfl ⟨rfl, rfl⟩ ⟨Nat.le_of_ble_eq_true rfl, Nat.le_of_ble_eq_true rfl⟩ ⟨Nat.le_of_ble_eq_true rfl, Nat.le_of_ble_eq_true rfl⟩ (Nat.le_of_ble_eq_true rfl) dX9_join_15 (frM [] [] _) rfl (pb (fun r7 u8 br7 hw => ?_))
      refine v_to (wMod G a0 v0) 18 [(0, .ref a0.1), (1, .int i0), (2, .int i1), (3, .int i2)] _ [.int r7] rfl rfl rfl rfl ?_
      refine v_if_eq (pc2 := 21) (tgt := 26) S dX9_join_18 (by decide) rfl (fun c9 => ?_) (fun c9 => ?_)
      · have hw := hw.1 c9
        refine v_iconst (v := -1) (pc2 := 27) S dX9_join_26 (by decide) rfl ?_
        exact v_iret S ⟨(-1 : Int32), v0, rfl, rfl, hw⟩ dX9_join_27
      · have hw := hw.2 c9
        refine v_iload_n (pc2 := 22) S 2 dX9_join_21 rfl rfl rfl ?_
        refine v_iload_n (pc2 := 23) S 3 dX9_join_22 rfl rfl rfl ?_
        refine v_icmp_ne (pc2 := 26) (tgt := 28) S dX9_join_23 (by decide) rfl (fun c10 => ?_) (fun c10 => ?_)
        · have hw := hw.1 c10
          refine v_aload_n (pc2 := 29) S 0 dX9_join_28 rfl rfl rfl ?_
          refine v_iload_n (pc2 := 30) S 1 dX9_join_29 rfl rfl rfl ?_
          refine v_callV (pc2 := 33) (As := [.int i0]) (rest := []) S (c_X9_isOpen l G a0 v0 i0 _ hw) mf_X9_isOpen u_848 u_850 u_22 0 9 rfl rfl rfl rfl ⟨rfl, rfl⟩ ⟨Nat.le_of_ble_eq_true rfl, Nat.le_of_ble_eq_true rfl⟩ ⟨Nat.le_of_ble_eq_true rfl, Nat.le_of_ble_eq_true rfl⟩ (Nat.le_of_ble_eq_true rfl) dX9_join_30 (frW _) rfl (pb (fun r11 u12 br11 hw => ?_))
          refine v_to (wMod G a0 v0) 33 [(0, .ref a0.1), (1, .int i0), (2, .int i1), (3, .int i2)] _ [.int r11] rfl rfl rfl rfl ?_
          refine v_if_eq (pc2 := 36) (tgt := 39) S dX9_join_33 (by decide) rfl (fun c13 => ?_) (fun c13 => ?_)
          · have hw := hw.1 c13
            refine v_aload_n (pc2 := 40) S 0 dX9_join_39 rfl rfl rfl ?_
            refine v_callV (pc2 := 43) (As := []) (rest := []) S (c_X9_record l G a0 v0 _ hw) mf_X9_record u_826 u_828 u_19 0 9 rfl rfl rfl rfl ⟨rfl, rfl⟩ ⟨Nat.le_of_ble_eq_true rfl, Nat.le_of_ble_eq_true rfl⟩ ⟨Nat.le_of_ble_eq_true rfl, Nat.le_of_ble_eq_true rfl⟩ (Nat.le_of_ble_eq_true rfl) dX9_join_40 (frW _) rfl (pv (fun u15 hw => ?_))
            refine v_to (wMod G a0 u15) 43 [(0, .ref a0.1), (1, .int i0), (2, .int i1), (3, .int i2)] _ [] rfl rfl rfl rfl ?_
            refine v_bipush (v := 10) (pc2 := 45) S dX9_join_43 (by decide) rfl ?_
            refine v_aload_n (pc2 := 46) S 0 dX9_join_45 rfl rfl rfl ?_
            refine v_iload_n (pc2 := 47) S 1 dX9_join_46 rfl rfl rfl ?_
            refine v_callV (pc2 := 50) (As := [.int i0]) (rest := [.int (10 : Int32)]) S (c_X9_lesserHall l G a0 u15 i0 _ hw) mf_X9_lesserHall u_946 u_948 u_39 0 9 rfl rfl rfl rfl ⟨rfl, rfl⟩ ⟨Nat.le_of_ble_eq_true rfl, Nat.le_of_ble_eq_true rfl⟩ ⟨Nat.le_of_ble_eq_true rfl, Nat.le_of_ble_eq_true rfl⟩ (Nat.le_of_ble_eq_true rfl) dX9_join_47 (frW _) rfl (pi (fun r16 u17 hw => ?_))
            refine v_to (wMod G a0 u15) 50 [(0, .ref a0.1), (1, .int i0), (2, .int i1), (3, .int i2)] _ [.int r16, .int (10 : Int32)] rfl rfl rfl rfl ?_
            refine v_imul (pc2 := 51) S dX9_join_50 rfl ?_
            refine v_aload_n (pc2 := 52) S 0 dX9_join_51 rfl rfl rfl ?_
            refine v_iload_n (pc2 := 53) S 1 dX9_join_52 rfl rfl rfl ?_
            refine v_callV (pc2 := 56) (As := [.int i0]) (rest := [.int ((10 : Int32) * r16)]) S (c_X9_greaterHall l G a0 u15 i0 _ hw) mf_X9_greaterHall u_950 u_952 u_40 0 9 rfl rfl rfl rfl ⟨rfl, rfl⟩ ⟨Nat.le_of_ble_eq_true rfl, Nat.le_of_ble_eq_true rfl⟩ ⟨Nat.le_of_ble_eq_true rfl, Nat.le_of_ble_eq_true rfl⟩ (Nat.le_of_ble_eq_true rfl) dX9_join_53 (frW _) rfl (pi (fun r18 u19 hw => ?_))
            refine v_to (wMod G a0 u15) 56 [(0, .ref a0.1), (1, .int i0), (2, .int i1), (3, .int i2)] _ [.int r18, .int ((10 : Int32) * r16)] rfl rfl rfl rfl ?_
            refine v_iadd (pc2 := 57) S dX9_join_56 rfl ?_
            refine v_nm (fun z20 ez20 => ?_)
            have hw := hw z20 ez20
            refine v_istore (lv2 := [(0, .ref a0.1), (1, .int i0), (2, .int i1), (3, .int i2), (4, .int z20)]) (pc2 := 59) S dX9_join_57 (by decide) [1, 2, 3, 4, 0] rfl rfl ?_
            refine v_aload_n (pc2 := 60) S 0 dX9_join_59 rfl rfl rfl ?_
            refine v_iload_n (pc2 := 61) S 1 dX9_join_60 rfl rfl rfl ?_
            refine v_iconst (v := 1) (pc2 := 62) S dX9_join_61 (by decide) rfl ?_
            refine v_iload_n (pc2 := 63) S 2 dX9_join_62 rfl rfl rfl ?_
            refine v_callV (pc2 := 66) (As := [.int i0, .int (1 : Int32), .int i1]) (rest := []) S (c_X9_lay l G a0 u15 i0 (1 : Int32) i1 _ hw) mf_X9_lay u_747 u_749 u_16 0 9 rfl rfl rfl rfl ⟨rfl, rfl⟩ ⟨Nat.le_of_ble_eq_true rfl, Nat.le_of_ble_eq_true rfl⟩ ⟨Nat.le_of_ble_eq_true rfl, Nat.le_of_ble_eq_true rfl⟩ (Nat.le_of_ble_eq_true rfl) dX9_join_63 (frW _) rfl (pv (fun u22 hw => ?_))
            refine v_to (wMod G a0 u22) 66 [(0, .ref a0.1), (1, .int i0), (2, .int i1), (3, .int i2), (4, .int z20)] _ [] rfl rfl rfl rfl ?_
            refine v_aload_n (pc2 := 67) S 0 dX9_join_66 rfl rfl rfl ?_
            refine v_iload_n (pc2 := 68) S 1 dX9_join_67 rfl rfl rfl ?_
            refine v_iconst (v := 2) (pc2 := 69) S dX9_join_68 (by decide) rfl ?_
            refine v_iload_n (pc2 := 70) S 3 dX9_join_69 rfl rfl rfl ?_
            refine v_callV (pc2 := 73) (As := [.int i0, .int (2 : Int32), .int i2]) (rest := []) S (c_X9_lay l G a0 u22 i0 (2 : Int32) i2 _ hw) mf_X9_lay u_747 u_749 u_16 0 9 rfl rfl rfl rfl ⟨rfl, rfl⟩ ⟨Nat.le_of_ble_eq_true rfl, Nat.le_of_ble_eq_true rfl⟩ ⟨Nat.le_of_ble_eq_true rfl, Nat.le_of_ble_eq_true rfl⟩ (Nat.le_of_ble_eq_true rfl) dX9_join_70 (frW _) rfl (pv (fun u24 hw => ?_))
            refine v_to (wMod G a0 u24) 73 [(0, .ref a0.1), (1, .int i0), (2, .int i1), (3, .int i2), (4, .int z20)] _ [] rfl rfl rfl rfl ?_
            refine v_iload (pc2 := 75) S 4 dX9_join_73 rfl rfl ?_
            exact v_iret S ⟨z20, u24, rfl, rfl, hw⟩ dX9_join_75
          · have hw := hw.2 c13
            refine v_bipush (v := -2) (pc2 := 38) S dX9_join_36 (by decide) rfl ?_
            exact v_iret S ⟨(-2 : Int32), v0, rfl, rfl, hw⟩ dX9_join_38
        · have hw := hw.2 c10
          refine v_iconst (v := -1) (pc2 := 27) S dX9_join_26 (by decide) rfl ?_
          exact v_iret S ⟨(-1 : Int32), v0, rfl, rfl, hw⟩ dX9_join_27
set_option maxHeartbeats 4000000 in
set_option maxRecDepth 100000 in
theorem c_X9_keys (l : Launch) (G : GG) (a0 : ModA) (v0 : ModV) (i0 : Int32) (i1 : Int32) (Q : Int32 → ModV → Prop) (hw : wp_X9_keys v0 i0 i1 Q) : Con l G yX9_keys cX9_keys 4 (some .int) { frames := 2, cells := 0, slots := 0, locals := 45 } [.ref a0.1, .int i0, .int i1] (wMod G a0 v0) (PI (fun u : ModV => wMod G a0 u) Q) 0 0 := by
  refine con_of RX9 rfl (by decide) [(0, .ref a0.1), (1, .int i0), (2, .int i1)] rfl (Nat.le_of_ble_eq_true rfl) ?_
  intro p e s m args below meth c S hname
  refine v_iload_n (pc2 := 1) S 1 dX9_keys_0 rfl rfl rfl ?_
  refine v_callS (pc2 := 4) (As := [.int i0]) (rest := []) S (c_X9_isGuest l G i0 _ hw) mf_X9_isGuest u_896 u_897 rfl rfl ⟨rfl, rfl⟩ ⟨Nat.le_of_ble_eq_true rfl, Nat.le_of_ble_eq_true rfl⟩ ⟨Nat.le_of_ble_eq_true rfl, Nat.le_of_ble_eq_true rfl⟩ (Nat.le_of_ble_eq_true rfl) dX9_keys_1 (frM [] [] _) rfl (pb (fun r1 u2 br1 hw => ?_))
  refine v_to (wMod G a0 v0) 4 [(0, .ref a0.1), (1, .int i0), (2, .int i1)] _ [.int r1] rfl rfl rfl rfl ?_
  refine v_if_eq (pc2 := 7) (tgt := 18) S dX9_keys_4 (by decide) rfl (fun c3 => ?_) (fun c3 => ?_)
  · have hw := hw.1 c3
    refine v_iconst (v := -1) (pc2 := 19) S dX9_keys_18 (by decide) rfl ?_
    exact v_iret S ⟨(-1 : Int32), v0, rfl, rfl, hw⟩ dX9_keys_19
  · have hw := hw.2 c3
    refine v_iload_n (pc2 := 8) S 2 dX9_keys_7 rfl rfl rfl ?_
    refine v_iconst (v := 0) (pc2 := 9) S dX9_keys_8 (by decide) rfl ?_
    refine v_sipush (v := 1023) (pc2 := 12) S dX9_keys_9 (by decide) rfl ?_
    refine v_callS (pc2 := 15) (As := [.int i1, .int (0 : Int32), .int (1023 : Int32)]) (rest := []) S (c_X9_in l G i1 (0 : Int32) (1023 : Int32) _ hw) mf_X9_in u_837 u_838 rfl rfl ⟨rfl, rfl⟩ ⟨Nat.le_of_ble_eq_true rfl, Nat.le_of_ble_eq_true rfl⟩ ⟨Nat.le_of_ble_eq_true rfl, Nat.le_of_ble_eq_true rfl⟩ (Nat.le_of_ble_eq_true rfl) dX9_keys_12 (frM [] [] _) rfl (pb (fun r4 u5 br4 hw => ?_))
    refine v_to (wMod G a0 v0) 15 [(0, .ref a0.1), (1, .int i0), (2, .int i1)] _ [.int r4] rfl rfl rfl rfl ?_
    refine v_if_ne (pc2 := 18) (tgt := 20) S dX9_keys_15 (by decide) rfl (fun c6 => ?_) (fun c6 => ?_)
    · have hw := hw.1 c6
      refine v_aload_n (pc2 := 21) S 0 dX9_keys_20 rfl rfl rfl ?_
      refine v_callV (pc2 := 24) (As := []) (rest := []) S (c_X9_record l G a0 v0 _ hw) mf_X9_record u_826 u_828 u_19 0 9 rfl rfl rfl rfl ⟨rfl, rfl⟩ ⟨Nat.le_of_ble_eq_true rfl, Nat.le_of_ble_eq_true rfl⟩ ⟨Nat.le_of_ble_eq_true rfl, Nat.le_of_ble_eq_true rfl⟩ (Nat.le_of_ble_eq_true rfl) dX9_keys_21 (frW _) rfl (pv (fun u8 hw => ?_))
      refine v_to (wMod G a0 u8) 24 [(0, .ref a0.1), (1, .int i0), (2, .int i1)] _ [] rfl rfl rfl rfl ?_
      refine v_aload_n (pc2 := 25) S 0 dX9_keys_24 rfl rfl rfl ?_
      refine v_iload_n (pc2 := 26) S 1 dX9_keys_25 rfl rfl rfl ?_
      refine v_iconst (v := 1) (pc2 := 27) S dX9_keys_26 (by decide) rfl ?_
      refine v_callV (pc2 := 30) (As := [.int i0, .int (1 : Int32)]) (rest := []) S (c_X9_ofGuest l G a0 u8 i0 (1 : Int32) _ hw) mf_X9_ofGuest u_907 u_909 u_34 0 9 rfl rfl rfl rfl ⟨rfl, rfl⟩ ⟨Nat.le_of_ble_eq_true rfl, Nat.le_of_ble_eq_true rfl⟩ ⟨Nat.le_of_ble_eq_true rfl, Nat.le_of_ble_eq_true rfl⟩ (Nat.le_of_ble_eq_true rfl) dX9_keys_27 (frW _) rfl (pi (fun r9 u10 hw => ?_))
      refine v_to (wMod G a0 u8) 30 [(0, .ref a0.1), (1, .int i0), (2, .int i1)] _ [.int r9] rfl rfl rfl rfl ?_
      refine v_istore_n (lv2 := [(0, .ref a0.1), (1, .int i0), (2, .int i1), (3, .int r9)]) (pc2 := 31) S dX9_keys_30 rfl (by decide) [1, 2, 3, 0] rfl rfl ?_
      refine v_aload_n (pc2 := 32) S 0 dX9_keys_31 rfl rfl rfl ?_
      refine v_get (v := .ref a0.2.1) (pc2 := 35) S gf_X9_7 0 rfl rfl dX9_keys_32 rfl ?_
      refine v_bipush (v := 76) (pc2 := 37) S dX9_keys_35 (by decide) rfl ?_
      refine v_iconst (v := 3) (pc2 := 38) S dX9_keys_37 (by decide) rfl ?_
      refine v_iload_n (pc2 := 39) S 1 dX9_keys_38 rfl rfl rfl ?_
      refine v_imul (pc2 := 40) S dX9_keys_39 rfl ?_
      refine v_iadd (pc2 := 41) S dX9_keys_40 rfl ?_
      refine v_iconst (v := 1) (pc2 := 42) S dX9_keys_41 (by decide) rfl ?_
      refine v_iadd (pc2 := 43) S dX9_keys_42 rfl ?_
      refine v_iload_n (pc2 := 44) S 2 dX9_keys_43 rfl rfl rfl ?_
      obtain ⟨h11, hw⟩ := hw
      obtain ⟨g12, eg12⟩ : ∃ y : Nat → Int32, y = upd u8.1 (((76 : Int32) + ((3 : Int32) * i0)) + (1 : Int32)).toNatClampNeg i1 := ⟨_, rfl⟩
      have hw := hw g12 eg12
      refine v_iast (ws2 := wMod G a0 (g12, u8.2.1, u8.2.2.1, u8.2.2.2.1, u8.2.2.2.2.1, u8.2.2.2.2.2.1, u8.2.2.2.2.2.2.1, u8.2.2.2.2.2.2.2.1, u8.2.2.2.2.2.2.2.2.1, u8.2.2.2.2.2.2.2.2.2.1, u8.2.2.2.2.2.2.2.2.2.2.1, u8.2.2.2.2.2.2.2.2.2.2.2.1, u8.2.2.2.2.2.2.2.2.2.2.2.2.1, u8.2.2.2.2.2.2.2.2.2.2.2.2.2.1, u8.2.2.2.2.2.2.2.2.2.2.2.2.2.2.1, u8.2.2.2.2.2.2.2.2.2.2.2.2.2.2.2.1, u8.2.2.2.2.2.2.2.2.2.2.2.2.2.2.2.2)) (pc2 := 45) S 1 rfl h11 (by rw [eg12] <;> rfl) dX9_keys_44 rfl ?_
      refine v_iload_n (pc2 := 46) S 3 dX9_keys_45 rfl rfl rfl ?_
      exact v_iret S ⟨r9, (g12, u8.2.1, u8.2.2.1, u8.2.2.2.1, u8.2.2.2.2.1, u8.2.2.2.2.2.1, u8.2.2.2.2.2.2.1, u8.2.2.2.2.2.2.2.1, u8.2.2.2.2.2.2.2.2.1, u8.2.2.2.2.2.2.2.2.2.1, u8.2.2.2.2.2.2.2.2.2.2.1, u8.2.2.2.2.2.2.2.2.2.2.2.1, u8.2.2.2.2.2.2.2.2.2.2.2.2.1, u8.2.2.2.2.2.2.2.2.2.2.2.2.2.1, u8.2.2.2.2.2.2.2.2.2.2.2.2.2.2.1, u8.2.2.2.2.2.2.2.2.2.2.2.2.2.2.2.1, u8.2.2.2.2.2.2.2.2.2.2.2.2.2.2.2.2), rfl, rfl, hw⟩ dX9_keys_46
    · have hw := hw.2 c6
      refine v_iconst (v := -1) (pc2 := 19) S dX9_keys_18 (by decide) rfl ?_
      exact v_iret S ⟨(-1 : Int32), v0, rfl, rfl, hw⟩ dX9_keys_19
set_option maxHeartbeats 4000000 in
set_option maxRecDepth 100000 in
theorem c_X9_draft (l : Launch) (G : GG) (a0 : ModA) (v0 : ModV) (i0 : Int32) (Q : Int32 → ModV → Prop) (hw : wp_X9_draft v0 i0 Q) : Con l G yX9_draft cX9_draft 3 (some .int) { frames := 2, cells := 0, slots := 0, locals := 45 } [.ref a0.1, .int i0] (wMod G a0 v0) (PI (fun u : ModV => wMod G a0 u) Q) 0 0 := by
  refine con_of RX9 rfl (by decide) [(0, .ref a0.1), (1, .int i0)] rfl (Nat.le_of_ble_eq_true rfl) ?_
  intro p e s m args below meth c S hname
  refine v_iload_n (pc2 := 1) S 1 dX9_draft_0 rfl rfl rfl ?_
  refine v_iconst (v := 1) (pc2 := 2) S dX9_draft_1 (by decide) rfl ?_
  refine v_bipush (v := 10) (pc2 := 4) S dX9_draft_2 (by decide) rfl ?_
  refine v_callS (pc2 := 7) (As := [.int i0, .int (1 : Int32), .int (10 : Int32)]) (rest := []) S (c_X9_in l G i0 (1 : Int32) (10 : Int32) _ hw) mf_X9_in u_837 u_838 rfl rfl ⟨rfl, rfl⟩ ⟨Nat.le_of_ble_eq_true rfl, Nat.le_of_ble_eq_true rfl⟩ ⟨Nat.le_of_ble_eq_true rfl, Nat.le_of_ble_eq_true rfl⟩ (Nat.le_of_ble_eq_true rfl) dX9_draft_4 (frM [] [] _) rfl (pb (fun r1 u2 br1 hw => ?_))
  refine v_to (wMod G a0 v0) 7 [(0, .ref a0.1), (1, .int i0)] _ [.int r1] rfl rfl rfl rfl ?_
  refine v_if_ne (pc2 := 10) (tgt := 12) S dX9_draft_7 (by decide) rfl (fun c3 => ?_) (fun c3 => ?_)
  · have hw := hw.1 c3
    refine v_aload_n (pc2 := 13) S 0 dX9_draft_12 rfl rfl rfl ?_
    refine v_callV (pc2 := 16) (As := []) (rest := []) S (c_X9_record l G a0 v0 _ hw) mf_X9_record u_826 u_828 u_19 0 9 rfl rfl rfl rfl ⟨rfl, rfl⟩ ⟨Nat.le_of_ble_eq_true rfl, Nat.le_of_ble_eq_true rfl⟩ ⟨Nat.le_of_ble_eq_true rfl, Nat.le_of_ble_eq_true rfl⟩ (Nat.le_of_ble_eq_true rfl) dX9_draft_13 (frW _) rfl (pv (fun u5 hw => ?_))
    refine v_to (wMod G a0 u5) 16 [(0, .ref a0.1), (1, .int i0)] _ [] rfl rfl rfl rfl ?_
    refine v_aload_n (pc2 := 17) S 0 dX9_draft_16 rfl rfl rfl ?_
    refine v_get (v := .ref a0.2.1) (pc2 := 20) S gf_X9_7 0 rfl rfl dX9_draft_17 rfl ?_
    refine v_iconst (v := 0) (pc2 := 21) S dX9_draft_20 (by decide) rfl ?_
    obtain ⟨h6, hw⟩ := hw
    refine v_iald (pc2 := 22) S 1 rfl h6 dX9_draft_21 rfl ?_
    refine v_nm (fun z7 ez7 => ?_)
    have hw := hw z7 ez7
    refine v_istore_n (lv2 := [(0, .ref a0.1), (1, .int i0), (2, .int z7)]) (pc2 := 23) S dX9_draft_22 rfl (by decide) [1, 2, 0] rfl rfl ?_
    refine v_aload_n (pc2 := 24) S 0 dX9_draft_23 rfl rfl rfl ?_
    refine v_get (v := .ref a0.2.1) (pc2 := 27) S gf_X9_7 0 rfl rfl dX9_draft_24 rfl ?_
    refine v_iconst (v := 0) (pc2 := 28) S dX9_draft_27 (by decide) rfl ?_
    refine v_iload_n (pc2 := 29) S 1 dX9_draft_28 rfl rfl rfl ?_
    obtain ⟨h8, hw⟩ := hw
    obtain ⟨g9, eg9⟩ : ∃ y : Nat → Int32, y = upd u5.1 (0 : Int32).toNatClampNeg i0 := ⟨_, rfl⟩
    have hw := hw g9 eg9
    refine v_iast (ws2 := wMod G a0 (g9, u5.2.1, u5.2.2.1, u5.2.2.2.1, u5.2.2.2.2.1, u5.2.2.2.2.2.1, u5.2.2.2.2.2.2.1, u5.2.2.2.2.2.2.2.1, u5.2.2.2.2.2.2.2.2.1, u5.2.2.2.2.2.2.2.2.2.1, u5.2.2.2.2.2.2.2.2.2.2.1, u5.2.2.2.2.2.2.2.2.2.2.2.1, u5.2.2.2.2.2.2.2.2.2.2.2.2.1, u5.2.2.2.2.2.2.2.2.2.2.2.2.2.1, u5.2.2.2.2.2.2.2.2.2.2.2.2.2.2.1, u5.2.2.2.2.2.2.2.2.2.2.2.2.2.2.2.1, u5.2.2.2.2.2.2.2.2.2.2.2.2.2.2.2.2)) (pc2 := 30) S 1 rfl h8 (by rw [eg9] <;> rfl) dX9_draft_29 rfl ?_
    refine v_iload_n (pc2 := 31) S 2 dX9_draft_30 rfl rfl rfl ?_
    exact v_iret S ⟨z7, (g9, u5.2.1, u5.2.2.1, u5.2.2.2.1, u5.2.2.2.2.1, u5.2.2.2.2.2.1, u5.2.2.2.2.2.2.1, u5.2.2.2.2.2.2.2.1, u5.2.2.2.2.2.2.2.2.1, u5.2.2.2.2.2.2.2.2.2.1, u5.2.2.2.2.2.2.2.2.2.2.1, u5.2.2.2.2.2.2.2.2.2.2.2.1, u5.2.2.2.2.2.2.2.2.2.2.2.2.1, u5.2.2.2.2.2.2.2.2.2.2.2.2.2.1, u5.2.2.2.2.2.2.2.2.2.2.2.2.2.2.1, u5.2.2.2.2.2.2.2.2.2.2.2.2.2.2.2.1, u5.2.2.2.2.2.2.2.2.2.2.2.2.2.2.2.2), rfl, rfl, hw⟩ dX9_draft_31
  · have hw := hw.2 c3
    refine v_iconst (v := -1) (pc2 := 11) S dX9_draft_10 (by decide) rfl ?_
    exact v_iret S ⟨(-1 : Int32), v0, rfl, rfl, hw⟩ dX9_draft_11
set_option maxHeartbeats 4000000 in
set_option maxRecDepth 100000 in
theorem c_X9_append (l : Launch) (G : GG) (a0 : ModA) (v0 : ModV) (i0 : Int32) (Q : Int32 → ModV → Prop) (hw : wp_X9_append v0 i0 Q) : Con l G yX9_append cX9_append 2 (some .int) { frames := 1, cells := 0, slots := 0, locals := 22 } [.ref a0.1, .int i0] (wMod G a0 v0) (PI (fun u : ModV => wMod G a0 u) Q) 0 0 := by
  refine con_of RX9 rfl (by decide) [(0, .ref a0.1), (1, .int i0)] rfl (Nat.le_of_ble_eq_true rfl) ?_
  intro p e s m args below meth c S hname
  refine v_iload_n (pc2 := 1) S 1 dX9_append_0 rfl rfl rfl ?_
  refine v_bipush (v := 33) (pc2 := 3) S dX9_append_1 (by decide) rfl ?_
  refine v_bipush (v := 126) (pc2 := 5) S dX9_append_3 (by decide) rfl ?_
  refine v_callS (pc2 := 8) (As := [.int i0, .int (33 : Int32), .int (126 : Int32)]) (rest := []) S (c_X9_in l G i0 (33 : Int32) (126 : Int32) _ hw) mf_X9_in u_837 u_838 rfl rfl ⟨rfl, rfl⟩ ⟨Nat.le_of_ble_eq_true rfl, Nat.le_of_ble_eq_true rfl⟩ ⟨Nat.le_of_ble_eq_true rfl, Nat.le_of_ble_eq_true rfl⟩ (Nat.le_of_ble_eq_true rfl) dX9_append_5 (frM [] [] _) rfl (pb (fun r1 u2 br1 hw => ?_))
  refine v_to (wMod G a0 v0) 8 [(0, .ref a0.1), (1, .int i0)] _ [.int r1] rfl rfl rfl rfl ?_
  refine v_if_ne (pc2 := 11) (tgt := 13) S dX9_append_8 (by decide) rfl (fun c3 => ?_) (fun c3 => ?_)
  · have hw := hw.1 c3
    refine v_aload_n (pc2 := 14) S 0 dX9_append_13 rfl rfl rfl ?_
    refine v_get (v := .int v0.2.2.2.2.2.2.2.1) (pc2 := 17) S gf_X9_151 0 rfl rfl dX9_append_14 rfl ?_
    refine v_bipush (v := 60) (pc2 := 19) S dX9_append_17 (by decide) rfl ?_
    refine v_icmp_ne (pc2 := 22) (tgt := 25) S dX9_append_19 (by decide) rfl (fun c4 => ?_) (fun c4 => ?_)
    · have hw := hw.1 c4
      refine v_aload_n (pc2 := 26) S 0 dX9_append_25 rfl rfl rfl ?_
      refine v_get (v := .ref a0.2.2.2.2.2.1) (pc2 := 29) S gf_X9_22 0 rfl rfl dX9_append_26 rfl ?_
      refine v_aload_n (pc2 := 30) S 0 dX9_append_29 rfl rfl rfl ?_
      refine v_get (v := .int v0.2.2.2.2.2.2.2.1) (pc2 := 33) S gf_X9_151 0 rfl rfl dX9_append_30 rfl ?_
      refine v_iload_n (pc2 := 34) S 1 dX9_append_33 rfl rfl rfl ?_
      obtain ⟨h5, hw⟩ := hw
      obtain ⟨g6, eg6⟩ : ∃ y : Nat → Int32, y = upd v0.2.2.2.2.2.2.1 v0.2.2.2.2.2.2.2.1.toNatClampNeg i0 := ⟨_, rfl⟩
      have hw := hw g6 eg6
      refine v_iast (ws2 := wMod G a0 (v0.1, v0.2.1, v0.2.2.1, v0.2.2.2.1, v0.2.2.2.2.1, v0.2.2.2.2.2.1, g6, v0.2.2.2.2.2.2.2.1, v0.2.2.2.2.2.2.2.2.1, v0.2.2.2.2.2.2.2.2.2.1, v0.2.2.2.2.2.2.2.2.2.2.1, v0.2.2.2.2.2.2.2.2.2.2.2.1, v0.2.2.2.2.2.2.2.2.2.2.2.2.1, v0.2.2.2.2.2.2.2.2.2.2.2.2.2.1, v0.2.2.2.2.2.2.2.2.2.2.2.2.2.2.1, v0.2.2.2.2.2.2.2.2.2.2.2.2.2.2.2.1, v0.2.2.2.2.2.2.2.2.2.2.2.2.2.2.2.2)) (pc2 := 35) S 5 rfl h5 (by rw [eg6] <;> rfl) dX9_append_34 rfl ?_
      refine v_aload_n (pc2 := 36) S 0 dX9_append_35 rfl rfl rfl ?_
      refine v_dup (pc2 := 37) S dX9_append_36 rfl rfl ?_
      refine v_get (v := .int v0.2.2.2.2.2.2.2.1) (pc2 := 40) S gf_X9_151 0 rfl rfl dX9_append_37 rfl ?_
      refine v_iconst (v := 1) (pc2 := 41) S dX9_append_40 (by decide) rfl ?_
      refine v_iadd (pc2 := 42) S dX9_append_41 rfl ?_
      refine v_nm (fun z7 ez7 => ?_)
      have hw := hw z7 ez7
      refine v_put (ws2 := wMod G a0 (v0.1, v0.2.1, v0.2.2.1, v0.2.2.2.1, v0.2.2.2.2.1, v0.2.2.2.2.2.1, g6, z7, v0.2.2.2.2.2.2.2.2.1, v0.2.2.2.2.2.2.2.2.2.1, v0.2.2.2.2.2.2.2.2.2.2.1, v0.2.2.2.2.2.2.2.2.2.2.2.1, v0.2.2.2.2.2.2.2.2.2.2.2.2.1, v0.2.2.2.2.2.2.2.2.2.2.2.2.2.1, v0.2.2.2.2.2.2.2.2.2.2.2.2.2.2.1, v0.2.2.2.2.2.2.2.2.2.2.2.2.2.2.2.1, v0.2.2.2.2.2.2.2.2.2.2.2.2.2.2.2.2)) (pc2 := 45) S gf_X9_151 pf_X9_7 0 rfl rfl rfl (Nat.le_of_ble_eq_true rfl) rfl dX9_append_42 rfl ?_
      refine v_aload_n (pc2 := 46) S 0 dX9_append_45 rfl rfl rfl ?_
      refine v_get (v := .int z7) (pc2 := 49) S gf_X9_151 0 rfl rfl dX9_append_46 rfl ?_
      exact v_iret S ⟨z7, (v0.1, v0.2.1, v0.2.2.1, v0.2.2.2.1, v0.2.2.2.2.1, v0.2.2.2.2.2.1, g6, z7, v0.2.2.2.2.2.2.2.2.1, v0.2.2.2.2.2.2.2.2.2.1, v0.2.2.2.2.2.2.2.2.2.2.1, v0.2.2.2.2.2.2.2.2.2.2.2.1, v0.2.2.2.2.2.2.2.2.2.2.2.2.1, v0.2.2.2.2.2.2.2.2.2.2.2.2.2.1, v0.2.2.2.2.2.2.2.2.2.2.2.2.2.2.1, v0.2.2.2.2.2.2.2.2.2.2.2.2.2.2.2.1, v0.2.2.2.2.2.2.2.2.2.2.2.2.2.2.2.2), rfl, rfl, hw⟩ dX9_append_49
    · have hw := hw.2 c4
      refine v_bipush (v := -3) (pc2 := 24) S dX9_append_22 (by decide) rfl ?_
      exact v_iret S ⟨(-3 : Int32), v0, rfl, rfl, hw⟩ dX9_append_24
  · have hw := hw.2 c3
    refine v_iconst (v := -1) (pc2 := 12) S dX9_append_11 (by decide) rfl ?_
    exact v_iret S ⟨(-1 : Int32), v0, rfl, rfl, hw⟩ dX9_append_12
set_option maxHeartbeats 4000000 in
set_option maxRecDepth 100000 in
theorem c_X9_clear (l : Launch) (G : GG) (a0 : ModA) (v0 : ModV) (Q : Int32 → ModV → Prop) (hw : wp_X9_clear v0 Q) : Con l G yX9_clear cX9_clear 2 (some .int) { frames := 0, cells := 0, slots := 0, locals := 0 } [.ref a0.1] (wMod G a0 v0) (PI (fun u : ModV => wMod G a0 u) Q) 0 0 := by
  refine con_of RX9 rfl (by decide) [(0, .ref a0.1)] rfl (Nat.le_of_ble_eq_true rfl) ?_
  intro p e s m args below meth c S hname
  refine v_aload_n (pc2 := 1) S 0 dX9_clear_0 rfl rfl rfl ?_
  refine v_get (v := .int v0.2.2.2.2.2.2.2.1) (pc2 := 4) S gf_X9_151 0 rfl rfl dX9_clear_1 rfl ?_
  refine v_nm (fun z1 ez1 => ?_)
  have hw := hw z1 ez1
  refine v_istore_n (lv2 := [(0, .ref a0.1), (1, .int z1)]) (pc2 := 5) S dX9_clear_4 rfl (by decide) [1, 0] rfl rfl ?_
  refine v_aload_n (pc2 := 6) S 0 dX9_clear_5 rfl rfl rfl ?_
  refine v_iconst (v := 0) (pc2 := 7) S dX9_clear_6 (by decide) rfl ?_
  refine v_put (ws2 := wMod G a0 (v0.1, v0.2.1, v0.2.2.1, v0.2.2.2.1, v0.2.2.2.2.1, v0.2.2.2.2.2.1, v0.2.2.2.2.2.2.1, (0 : Int32), v0.2.2.2.2.2.2.2.2.1, v0.2.2.2.2.2.2.2.2.2.1, v0.2.2.2.2.2.2.2.2.2.2.1, v0.2.2.2.2.2.2.2.2.2.2.2.1, v0.2.2.2.2.2.2.2.2.2.2.2.2.1, v0.2.2.2.2.2.2.2.2.2.2.2.2.2.1, v0.2.2.2.2.2.2.2.2.2.2.2.2.2.2.1, v0.2.2.2.2.2.2.2.2.2.2.2.2.2.2.2.1, v0.2.2.2.2.2.2.2.2.2.2.2.2.2.2.2.2)) (pc2 := 10) S gf_X9_151 pf_X9_7 0 rfl rfl rfl (Nat.le_of_ble_eq_true rfl) rfl dX9_clear_7 rfl ?_
  refine v_iload_n (pc2 := 11) S 1 dX9_clear_10 rfl rfl rfl ?_
  exact v_iret S ⟨z1, (v0.1, v0.2.1, v0.2.2.1, v0.2.2.2.1, v0.2.2.2.2.1, v0.2.2.2.2.2.1, v0.2.2.2.2.2.2.1, (0 : Int32), v0.2.2.2.2.2.2.2.2.1, v0.2.2.2.2.2.2.2.2.2.1, v0.2.2.2.2.2.2.2.2.2.2.1, v0.2.2.2.2.2.2.2.2.2.2.2.1, v0.2.2.2.2.2.2.2.2.2.2.2.2.1, v0.2.2.2.2.2.2.2.2.2.2.2.2.2.1, v0.2.2.2.2.2.2.2.2.2.2.2.2.2.2.1, v0.2.2.2.2.2.2.2.2.2.2.2.2.2.2.2.1, v0.2.2.2.2.2.2.2.2.2.2.2.2.2.2.2.2), rfl, rfl, hw⟩ dX9_clear_11
set_option maxHeartbeats 4000000 in
set_option maxRecDepth 100000 in
theorem c_X9_sees (l : Launch) (G : GG) (a0 : ModA) (v0 : ModV) (i0 : Int32) (i1 : Int32) (Q : Int32 → Prop) (hw : wp_X9_sees v0 i0 i1 Q) : Con l G yX9_sees cX9_sees 3 (some .boolean) { frames := 1, cells := 0, slots := 0, locals := 22 } [.ref a0.1, .int i0, .int i1] (wMod G a0 v0) (PB (fun _ : Unit => wMod G a0 v0) (fun r _ => Q r)) 0 0 := by
  refine con_of RX9 rfl (by decide) [(0, .ref a0.1), (1, .int i0), (2, .int i1)] rfl (Nat.le_of_ble_eq_true rfl) ?_
  intro p e s m args below meth c S hname
  refine v_aload_n (pc2 := 1) S 0 dX9_sees_0 rfl rfl rfl ?_
  refine v_get (v := .int v0.2.2.2.2.2.2.2.2.2.2.2.1) (pc2 := 4) S gf_X9_154 0 rfl rfl dX9_sees_1 rfl ?_
  refine v_aload_n (pc2 := 5) S 0 dX9_sees_4 rfl rfl rfl ?_
  refine v_get (v := .int v0.2.2.2.2.2.2.2.1) (pc2 := 8) S gf_X9_151 0 rfl rfl dX9_sees_5 rfl ?_
  refine v_icmp_ge (pc2 := 11) (tgt := 32) S dX9_sees_8 (by decide) rfl (fun c1 => ?_) (fun c1 => ?_)
  · have hw := hw.1 c1
    refine v_iconst (v := 0) (pc2 := 33) S dX9_sees_32 (by decide) rfl ?_
    exact v_zret S (by decide) ⟨(0 : Int32), (), rfl, (by decide), rfl, hw⟩ dX9_sees_33
  · have hw := hw.2 c1
    refine v_aload_n (pc2 := 12) S 0 dX9_sees_11 rfl rfl rfl ?_
    refine v_get (v := .ref a0.2.2.2.2.2.1) (pc2 := 15) S gf_X9_22 0 rfl rfl dX9_sees_12 rfl ?_
    refine v_aload_n (pc2 := 16) S 0 dX9_sees_15 rfl rfl rfl ?_
    refine v_get (v := .int v0.2.2.2.2.2.2.2.2.2.2.2.1) (pc2 := 19) S gf_X9_154 0 rfl rfl dX9_sees_16 rfl ?_
    obtain ⟨h2, hw⟩ := hw
    refine v_iald (pc2 := 20) S 5 rfl h2 dX9_sees_19 rfl ?_
    refine v_iload_n (pc2 := 21) S 1 dX9_sees_20 rfl rfl rfl ?_
    refine v_iload_n (pc2 := 22) S 2 dX9_sees_21 rfl rfl rfl ?_
    refine v_callS (pc2 := 25) (As := [.int (v0.2.2.2.2.2.2.1 v0.2.2.2.2.2.2.2.2.2.2.2.1.toNatClampNeg), .int i0, .int i1]) (rest := []) S (c_X9_in l G (v0.2.2.2.2.2.2.1 v0.2.2.2.2.2.2.2.2.2.2.2.1.toNatClampNeg) i0 i1 _ hw) mf_X9_in u_837 u_838 rfl rfl ⟨rfl, rfl⟩ ⟨Nat.le_of_ble_eq_true rfl, Nat.le_of_ble_eq_true rfl⟩ ⟨Nat.le_of_ble_eq_true rfl, Nat.le_of_ble_eq_true rfl⟩ (Nat.le_of_ble_eq_true rfl) dX9_sees_22 (frM [] [] _) rfl (pb (fun r3 u4 br3 hw => ?_))
    refine v_to (wMod G a0 v0) 25 [(0, .ref a0.1), (1, .int i0), (2, .int i1)] _ [.int r3] rfl rfl rfl rfl ?_
    refine v_if_eq (pc2 := 28) (tgt := 32) S dX9_sees_25 (by decide) rfl (fun c5 => ?_) (fun c5 => ?_)
    · have hw := hw.1 c5
      refine v_iconst (v := 0) (pc2 := 33) S dX9_sees_32 (by decide) rfl ?_
      exact v_zret S (by decide) ⟨(0 : Int32), (), rfl, (by decide), rfl, hw⟩ dX9_sees_33
    · have hw := hw.2 c5
      refine v_iconst (v := 1) (pc2 := 29) S dX9_sees_28 (by decide) rfl ?_
      refine v_goto (tgt := 33) S dX9_sees_29 (by decide) ?_
      exact v_zret S (by decide) ⟨(1 : Int32), (), rfl, (by decide), rfl, hw⟩ dX9_sees_33
set_option maxHeartbeats 4000000 in
set_option maxRecDepth 100000 in
theorem c_X9_takes (l : Launch) (G : GG) (a0 : ModA) (v0 : ModV) (i0 : Int32) (Q : Int32 → ModV → Prop) (hw : wp_X9_takes v0 i0 Q) : Con l G yX9_takes cX9_takes 3 (some .boolean) { frames := 2, cells := 0, slots := 0, locals := 44 } [.ref a0.1, .int i0] (wMod G a0 v0) (PB (fun u : ModV => wMod G a0 u) Q) 0 0 := by
  refine con_of RX9 rfl (by decide) [(0, .ref a0.1), (1, .int i0)] rfl (Nat.le_of_ble_eq_true rfl) ?_
  intro p e s m args below meth c S hname
  refine v_aload_n (pc2 := 1) S 0 dX9_takes_0 rfl rfl rfl ?_
  refine v_iload_n (pc2 := 2) S 1 dX9_takes_1 rfl rfl rfl ?_
  refine v_iload_n (pc2 := 3) S 1 dX9_takes_2 rfl rfl rfl ?_
  refine v_callV (pc2 := 6) (As := [.int i0, .int i0]) (rest := []) S (c_X9_sees l G a0 v0 i0 i0 _ hw) mf_X9_sees u_986 u_988 u_44 0 9 rfl rfl rfl rfl ⟨rfl, rfl⟩ ⟨Nat.le_of_ble_eq_true rfl, Nat.le_of_ble_eq_true rfl⟩ ⟨Nat.le_of_ble_eq_true rfl, Nat.le_of_ble_eq_true rfl⟩ (Nat.le_of_ble_eq_true rfl) dX9_takes_3 (frW _) rfl (pb (fun r1 u2 br1 hw => ?_))
  refine v_to (wMod G a0 v0) 6 [(0, .ref a0.1), (1, .int i0)] _ [.int r1] rfl rfl rfl rfl ?_
  refine v_istore_n (lv2 := [(0, .ref a0.1), (1, .int i0), (2, .int r1)]) (pc2 := 7) S dX9_takes_6 rfl (by decide) [1, 2, 0] rfl rfl ?_
  refine v_aload_n (pc2 := 8) S 0 dX9_takes_7 rfl rfl rfl ?_
  refine v_dup (pc2 := 9) S dX9_takes_8 rfl rfl ?_
  refine v_get (v := .int v0.2.2.2.2.2.2.2.2.2.2.2.1) (pc2 := 12) S gf_X9_154 0 rfl rfl dX9_takes_9 rfl ?_
  refine v_iload_n (pc2 := 13) S 2 dX9_takes_12 rfl rfl rfl ?_
  refine v_if_eq (pc2 := 16) (tgt := 20) S dX9_takes_13 (by decide) rfl (fun c3 => ?_) (fun c3 => ?_)
  · have hw := hw.1 c3
    refine v_iconst (v := 0) (pc2 := 21) S dX9_takes_20 (by decide) rfl ?_
    refine v_iadd (pc2 := 22) S dX9_takes_21 rfl ?_
    refine v_nm (fun z4 ez4 => ?_)
    have hw := hw z4 ez4
    refine v_put (ws2 := wMod G a0 (v0.1, v0.2.1, v0.2.2.1, v0.2.2.2.1, v0.2.2.2.2.1, v0.2.2.2.2.2.1, v0.2.2.2.2.2.2.1, v0.2.2.2.2.2.2.2.1, v0.2.2.2.2.2.2.2.2.1, v0.2.2.2.2.2.2.2.2.2.1, v0.2.2.2.2.2.2.2.2.2.2.1, z4, v0.2.2.2.2.2.2.2.2.2.2.2.2.1, v0.2.2.2.2.2.2.2.2.2.2.2.2.2.1, v0.2.2.2.2.2.2.2.2.2.2.2.2.2.2.1, v0.2.2.2.2.2.2.2.2.2.2.2.2.2.2.2.1, v0.2.2.2.2.2.2.2.2.2.2.2.2.2.2.2.2)) (pc2 := 25) S gf_X9_154 pf_X9_11 0 rfl rfl rfl (Nat.le_of_ble_eq_true rfl) rfl dX9_takes_22 rfl ?_
    refine v_iload_n (pc2 := 26) S 2 dX9_takes_25 rfl rfl rfl ?_
    exact v_zret S br1 ⟨r1, (v0.1, v0.2.1, v0.2.2.1, v0.2.2.2.1, v0.2.2.2.2.1, v0.2.2.2.2.2.1, v0.2.2.2.2.2.2.1, v0.2.2.2.2.2.2.2.1, v0.2.2.2.2.2.2.2.2.1, v0.2.2.2.2.2.2.2.2.2.1, v0.2.2.2.2.2.2.2.2.2.2.1, z4, v0.2.2.2.2.2.2.2.2.2.2.2.2.1, v0.2.2.2.2.2.2.2.2.2.2.2.2.2.1, v0.2.2.2.2.2.2.2.2.2.2.2.2.2.2.1, v0.2.2.2.2.2.2.2.2.2.2.2.2.2.2.2.1, v0.2.2.2.2.2.2.2.2.2.2.2.2.2.2.2.2), rfl, br1, rfl, hw⟩ dX9_takes_26
  · have hw := hw.2 c3
    refine v_iconst (v := 1) (pc2 := 17) S dX9_takes_16 (by decide) rfl ?_
    refine v_goto (tgt := 21) S dX9_takes_17 (by decide) ?_
    refine v_iadd (pc2 := 22) S dX9_takes_21 rfl ?_
    refine v_nm (fun z5 ez5 => ?_)
    have hw := hw z5 ez5
    refine v_put (ws2 := wMod G a0 (v0.1, v0.2.1, v0.2.2.1, v0.2.2.2.1, v0.2.2.2.2.1, v0.2.2.2.2.2.1, v0.2.2.2.2.2.2.1, v0.2.2.2.2.2.2.2.1, v0.2.2.2.2.2.2.2.2.1, v0.2.2.2.2.2.2.2.2.2.1, v0.2.2.2.2.2.2.2.2.2.2.1, z5, v0.2.2.2.2.2.2.2.2.2.2.2.2.1, v0.2.2.2.2.2.2.2.2.2.2.2.2.2.1, v0.2.2.2.2.2.2.2.2.2.2.2.2.2.2.1, v0.2.2.2.2.2.2.2.2.2.2.2.2.2.2.2.1, v0.2.2.2.2.2.2.2.2.2.2.2.2.2.2.2.2)) (pc2 := 25) S gf_X9_154 pf_X9_11 0 rfl rfl rfl (Nat.le_of_ble_eq_true rfl) rfl dX9_takes_22 rfl ?_
    refine v_iload_n (pc2 := 26) S 2 dX9_takes_25 rfl rfl rfl ?_
    exact v_zret S br1 ⟨r1, (v0.1, v0.2.1, v0.2.2.1, v0.2.2.2.1, v0.2.2.2.2.1, v0.2.2.2.2.2.1, v0.2.2.2.2.2.2.1, v0.2.2.2.2.2.2.2.1, v0.2.2.2.2.2.2.2.2.1, v0.2.2.2.2.2.2.2.2.2.1, v0.2.2.2.2.2.2.2.2.2.2.1, z5, v0.2.2.2.2.2.2.2.2.2.2.2.2.1, v0.2.2.2.2.2.2.2.2.2.2.2.2.2.1, v0.2.2.2.2.2.2.2.2.2.2.2.2.2.2.1, v0.2.2.2.2.2.2.2.2.2.2.2.2.2.2.2.1, v0.2.2.2.2.2.2.2.2.2.2.2.2.2.2.2.2), rfl, br1, rfl, hw⟩ dX9_takes_26
set_option maxHeartbeats 4000000 in
set_option maxRecDepth 100000 in
theorem c_X9_takesOne (l : Launch) (G : GG) (a0 : ModA) (v0 : ModV) (i0 : Int32) (i1 : Int32) (Q : Int32 → ModV → Prop) (hw : wp_X9_takesOne v0 i0 i1 Q) : Con l G yX9_takesOne cX9_takesOne 3 (some .int) { frames := 2, cells := 0, slots := 0, locals := 44 } [.ref a0.1, .int i0, .int i1] (wMod G a0 v0) (PI (fun u : ModV => wMod G a0 u) Q) 0 0 := by
  refine con_of RX9 rfl (by decide) [(0, .ref a0.1), (1, .int i0), (2, .int i1)] rfl (Nat.le_of_ble_eq_true rfl) ?_
  intro p e s m args below meth c S hname
  refine v_aload_n (pc2 := 1) S 0 dX9_takesOne_0 rfl rfl rfl ?_
  refine v_iload_n (pc2 := 2) S 1 dX9_takesOne_1 rfl rfl rfl ?_
  refine v_iload_n (pc2 := 3) S 2 dX9_takesOne_2 rfl rfl rfl ?_
  refine v_callV (pc2 := 6) (As := [.int i0, .int i1]) (rest := []) S (c_X9_sees l G a0 v0 i0 i1 _ hw) mf_X9_sees u_986 u_988 u_44 0 9 rfl rfl rfl rfl ⟨rfl, rfl⟩ ⟨Nat.le_of_ble_eq_true rfl, Nat.le_of_ble_eq_true rfl⟩ ⟨Nat.le_of_ble_eq_true rfl, Nat.le_of_ble_eq_true rfl⟩ (Nat.le_of_ble_eq_true rfl) dX9_takesOne_3 (frW _) rfl (pb (fun r1 u2 br1 hw => ?_))
  refine v_to (wMod G a0 v0) 6 [(0, .ref a0.1), (1, .int i0), (2, .int i1)] _ [.int r1] rfl rfl rfl rfl ?_
  refine v_if_ne (pc2 := 9) (tgt := 12) S dX9_takesOne_6 (by decide) rfl (fun c3 => ?_) (fun c3 => ?_)
  · have hw := hw.1 c3
    refine v_aload_n (pc2 := 13) S 0 dX9_takesOne_12 rfl rfl rfl ?_
    refine v_dup (pc2 := 14) S dX9_takesOne_13 rfl rfl ?_
    refine v_get (v := .int v0.2.2.2.2.2.2.2.2.2.2.2.1) (pc2 := 17) S gf_X9_154 0 rfl rfl dX9_takesOne_14 rfl ?_
    refine v_iconst (v := 1) (pc2 := 18) S dX9_takesOne_17 (by decide) rfl ?_
    refine v_iadd (pc2 := 19) S dX9_takesOne_18 rfl ?_
    refine v_nm (fun z4 ez4 => ?_)
    have hw := hw z4 ez4
    refine v_put (ws2 := wMod G a0 (v0.1, v0.2.1, v0.2.2.1, v0.2.2.2.1, v0.2.2.2.2.1, v0.2.2.2.2.2.1, v0.2.2.2.2.2.2.1, v0.2.2.2.2.2.2.2.1, v0.2.2.2.2.2.2.2.2.1, v0.2.2.2.2.2.2.2.2.2.1, v0.2.2.2.2.2.2.2.2.2.2.1, z4, v0.2.2.2.2.2.2.2.2.2.2.2.2.1, v0.2.2.2.2.2.2.2.2.2.2.2.2.2.1, v0.2.2.2.2.2.2.2.2.2.2.2.2.2.2.1, v0.2.2.2.2.2.2.2.2.2.2.2.2.2.2.2.1, v0.2.2.2.2.2.2.2.2.2.2.2.2.2.2.2.2)) (pc2 := 22) S gf_X9_154 pf_X9_11 0 rfl rfl rfl (Nat.le_of_ble_eq_true rfl) rfl dX9_takesOne_19 rfl ?_
    refine v_aload_n (pc2 := 23) S 0 dX9_takesOne_22 rfl rfl rfl ?_
    refine v_get (v := .ref a0.2.2.2.2.2.1) (pc2 := 26) S gf_X9_22 0 rfl rfl dX9_takesOne_23 rfl ?_
    refine v_aload_n (pc2 := 27) S 0 dX9_takesOne_26 rfl rfl rfl ?_
    refine v_get (v := .int z4) (pc2 := 30) S gf_X9_154 0 rfl rfl dX9_takesOne_27 rfl ?_
    refine v_iconst (v := 1) (pc2 := 31) S dX9_takesOne_30 (by decide) rfl ?_
    refine v_isub (pc2 := 32) S dX9_takesOne_31 rfl ?_
    obtain ⟨h5, hw⟩ := hw
    refine v_iald (pc2 := 33) S 5 rfl h5 dX9_takesOne_32 rfl ?_
    exact v_iret S ⟨v0.2.2.2.2.2.2.1 (z4 - (1 : Int32)).toNatClampNeg, (v0.1, v0.2.1, v0.2.2.1, v0.2.2.2.1, v0.2.2.2.2.1, v0.2.2.2.2.2.1, v0.2.2.2.2.2.2.1, v0.2.2.2.2.2.2.2.1, v0.2.2.2.2.2.2.2.2.1, v0.2.2.2.2.2.2.2.2.2.1, v0.2.2.2.2.2.2.2.2.2.2.1, z4, v0.2.2.2.2.2.2.2.2.2.2.2.2.1, v0.2.2.2.2.2.2.2.2.2.2.2.2.2.1, v0.2.2.2.2.2.2.2.2.2.2.2.2.2.2.1, v0.2.2.2.2.2.2.2.2.2.2.2.2.2.2.2.1, v0.2.2.2.2.2.2.2.2.2.2.2.2.2.2.2.2), rfl, rfl, hw⟩ dX9_takesOne_33
  · have hw := hw.2 c3
    refine v_bipush (v := -4) (pc2 := 11) S dX9_takesOne_9 (by decide) rfl ?_
    exact v_iret S ⟨(-4 : Int32), v0, rfl, rfl, hw⟩ dX9_takesOne_11
set_option maxHeartbeats 4000000 in
set_option maxRecDepth 100000 in
theorem c_X9_readDeed (l : Launch) (G : GG) (a0 : ModA) (v0 : ModV) (Q : Int32 → ModV → Prop) (hw : wp_X9_readDeed v0 Q) : Con l G yX9_readDeed cX9_readDeed 5 (some .boolean) { frames := 3, cells := 0, slots := 0, locals := 66 } [.ref a0.1] (wMod G a0 v0) (PB (fun u : ModV => wMod G a0 u) Q) 0 0 := by
  refine con_of RX9 rfl (by decide) [(0, .ref a0.1)] rfl (Nat.le_of_ble_eq_true rfl) ?_
  intro p e s m args below meth c S hname
  have B109 : ∀ (x1 : Int32) (t0 : Int32) (w0 : ModV), wp_X9_readDeed_B109 x1 t0 w0 Q → V p l e { frames := 3, cells := 0, slots := 0, locals := 66 } s m args below meth c G (va_A (wMod G a0 v0) s.heap.size) 5 0 0 (MQ below (EQ G (wMod G a0 v0) s.heap.size (PB (fun u : ModV => wMod G a0 u) Q)) args s 0 0 (va_A (wMod G a0 v0) s.heap.size)) (wMod G a0 w0) 109 [(0, .ref a0.1), (1, .int x1)] [.int t0] := by
    intro x1 t0 w0 hw
    refine v_istore_n (lv2 := [(0, .ref a0.1), (1, .int x1), (3, .int t0)]) (pc2 := 110) S dX9_readDeed_109 rfl (by decide) [1, 2, 0] rfl rfl ?_
    refine v_iload_n (pc2 := 111) S 2 dX9_readDeed_110 rfl rfl rfl ?_
    refine v_if_ne (pc2 := 114) (tgt := 116) S dX9_readDeed_111 (by decide) rfl (fun c12 => ?_) (fun c12 => ?_)
    · have hw := hw.1 c12
      refine v_aload_n (pc2 := 117) S 0 dX9_readDeed_116 rfl rfl rfl ?_
      refine v_get (v := .ref a0.2.2.2.2.2.2.1) (pc2 := 120) S gf_X9_35 0 rfl rfl dX9_readDeed_117 rfl ?_
      refine v_iload_n (pc2 := 121) S 1 dX9_readDeed_120 rfl rfl rfl ?_
      refine v_iconst (v := 1) (pc2 := 122) S dX9_readDeed_121 (by decide) rfl ?_
      refine v_iadd (pc2 := 123) S dX9_readDeed_122 rfl ?_
      refine v_aload_n (pc2 := 124) S 0 dX9_readDeed_123 rfl rfl rfl ?_
      refine v_get (v := .ref a0.2.2.2.2.2.1) (pc2 := 127) S gf_X9_22 0 rfl rfl dX9_readDeed_124 rfl ?_
      refine v_aload_n (pc2 := 128) S 0 dX9_readDeed_127 rfl rfl rfl ?_
      refine v_get (v := .int w0.2.2.2.2.2.2.2.2.2.2.2.1) (pc2 := 131) S gf_X9_154 0 rfl rfl dX9_readDeed_128 rfl ?_
      obtain ⟨h13, hw⟩ := hw
      refine v_iald (pc2 := 132) S 5 rfl h13 dX9_readDeed_131 rfl ?_
      obtain ⟨h14, hw⟩ := hw
      obtain ⟨g15, eg15⟩ : ∃ y : Nat → Int32, y = upd w0.2.2.2.2.2.2.2.2.2.2.2.2.1 (x1 + (1 : Int32)).toNatClampNeg (w0.2.2.2.2.2.2.1 w0.2.2.2.2.2.2.2.2.2.2.2.1.toNatClampNeg) := ⟨_, rfl⟩
      have hw := hw g15 eg15
      refine v_iast (ws2 := wMod G a0 (w0.1, w0.2.1, w0.2.2.1, w0.2.2.2.1, w0.2.2.2.2.1, w0.2.2.2.2.2.1, w0.2.2.2.2.2.2.1, w0.2.2.2.2.2.2.2.1, w0.2.2.2.2.2.2.2.2.1, w0.2.2.2.2.2.2.2.2.2.1, w0.2.2.2.2.2.2.2.2.2.2.1, w0.2.2.2.2.2.2.2.2.2.2.2.1, g15, w0.2.2.2.2.2.2.2.2.2.2.2.2.2.1, w0.2.2.2.2.2.2.2.2.2.2.2.2.2.2.1, w0.2.2.2.2.2.2.2.2.2.2.2.2.2.2.2.1, w0.2.2.2.2.2.2.2.2.2.2.2.2.2.2.2.2)) (pc2 := 133) S 6 rfl h14 (by rw [eg15] <;> rfl) dX9_readDeed_132 rfl ?_
      refine v_aload_n (pc2 := 134) S 0 dX9_readDeed_133 rfl rfl rfl ?_
      refine v_dup (pc2 := 135) S dX9_readDeed_134 rfl rfl ?_
      refine v_get (v := .int w0.2.2.2.2.2.2.2.2.2.2.2.1) (pc2 := 138) S gf_X9_154 0 rfl rfl dX9_readDeed_135 rfl ?_
      refine v_iconst (v := 1) (pc2 := 139) S dX9_readDeed_138 (by decide) rfl ?_
      refine v_iadd (pc2 := 140) S dX9_readDeed_139 rfl ?_
      refine v_nm (fun z16 ez16 => ?_)
      have hw := hw z16 ez16
      refine v_put (ws2 := wMod G a0 (w0.1, w0.2.1, w0.2.2.1, w0.2.2.2.1, w0.2.2.2.2.1, w0.2.2.2.2.2.1, w0.2.2.2.2.2.2.1, w0.2.2.2.2.2.2.2.1, w0.2.2.2.2.2.2.2.2.1, w0.2.2.2.2.2.2.2.2.2.1, w0.2.2.2.2.2.2.2.2.2.2.1, z16, g15, w0.2.2.2.2.2.2.2.2.2.2.2.2.2.1, w0.2.2.2.2.2.2.2.2.2.2.2.2.2.2.1, w0.2.2.2.2.2.2.2.2.2.2.2.2.2.2.2.1, w0.2.2.2.2.2.2.2.2.2.2.2.2.2.2.2.2)) (pc2 := 143) S gf_X9_154 pf_X9_11 0 rfl rfl rfl (Nat.le_of_ble_eq_true rfl) rfl dX9_readDeed_140 rfl ?_
      refine v_aload_n (pc2 := 144) S 0 dX9_readDeed_143 rfl rfl rfl ?_
      refine v_bipush (v := 48) (pc2 := 146) S dX9_readDeed_144 (by decide) rfl ?_
      refine v_bipush (v := 57) (pc2 := 148) S dX9_readDeed_146 (by decide) rfl ?_
      refine v_callV (pc2 := 151) (As := [.int (48 : Int32), .int (57 : Int32)]) (rest := []) S (c_X9_takesOne l G a0 (w0.1, w0.2.1, w0.2.2.1, w0.2.2.2.1, w0.2.2.2.2.1, w0.2.2.2.2.2.1, w0.2.2.2.2.2.2.1, w0.2.2.2.2.2.2.2.1, w0.2.2.2.2.2.2.2.2.1, w0.2.2.2.2.2.2.2.2.2.1, w0.2.2.2.2.2.2.2.2.2.2.1, z16, g15, w0.2.2.2.2.2.2.2.2.2.2.2.2.2.1, w0.2.2.2.2.2.2.2.2.2.2.2.2.2.2.1, w0.2.2.2.2.2.2.2.2.2.2.2.2.2.2.2.1, w0.2.2.2.2.2.2.2.2.2.2.2.2.2.2.2.2) (48 : Int32) (57 : Int32) _ hw) mf_X9_takesOne u_990 u_992 u_45 0 9 rfl rfl rfl rfl ⟨rfl, rfl⟩ ⟨Nat.le_of_ble_eq_true rfl, Nat.le_of_ble_eq_true rfl⟩ ⟨Nat.le_of_ble_eq_true rfl, Nat.le_of_ble_eq_true rfl⟩ (Nat.le_of_ble_eq_true rfl) dX9_readDeed_148 (frW _) rfl (pi (fun r17 u18 hw => ?_))
      refine v_to (wMod G a0 u18) 151 [(0, .ref a0.1), (1, .int x1), (3, .int t0)] _ [.int r17] rfl rfl rfl rfl ?_
      refine v_istore (lv2 := [(0, .ref a0.1), (1, .int x1), (3, .int t0), (4, .int r17)]) (pc2 := 153) S dX9_readDeed_151 (by decide) [1, 2, 3, 0] rfl rfl ?_
      refine v_aload_n (pc2 := 154) S 0 dX9_readDeed_153 rfl rfl rfl ?_
      refine v_get (v := .ref a0.2.2.2.2.2.2.1) (pc2 := 157) S gf_X9_35 0 rfl rfl dX9_readDeed_154 rfl ?_
      refine v_iload_n (pc2 := 158) S 1 dX9_readDeed_157 rfl rfl rfl ?_
      refine v_iconst (v := 3) (pc2 := 159) S dX9_readDeed_158 (by decide) rfl ?_
      refine v_iadd (pc2 := 160) S dX9_readDeed_159 rfl ?_
      refine v_iload (pc2 := 162) S 3 dX9_readDeed_160 rfl rfl ?_
      refine v_bipush (v := 48) (pc2 := 164) S dX9_readDeed_162 (by decide) rfl ?_
      refine v_isub (pc2 := 165) S dX9_readDeed_164 rfl ?_
      obtain ⟨h19, hw⟩ := hw
      obtain ⟨g20, eg20⟩ : ∃ y : Nat → Int32, y = upd u18.2.2.2.2.2.2.2.2.2.2.2.2.1 (x1 + (3 : Int32)).toNatClampNeg (r17 - (48 : Int32)) := ⟨_, rfl⟩
      have hw := hw g20 eg20
      refine v_iast (ws2 := wMod G a0 (u18.1, u18.2.1, u18.2.2.1, u18.2.2.2.1, u18.2.2.2.2.1, u18.2.2.2.2.2.1, u18.2.2.2.2.2.2.1, u18.2.2.2.2.2.2.2.1, u18.2.2.2.2.2.2.2.2.1, u18.2.2.2.2.2.2.2.2.2.1, u18.2.2.2.2.2.2.2.2.2.2.1, u18.2.2.2.2.2.2.2.2.2.2.2.1, g20, u18.2.2.2.2.2.2.2.2.2.2.2.2.2.1, u18.2.2.2.2.2.2.2.2.2.2.2.2.2.2.1, u18.2.2.2.2.2.2.2.2.2.2.2.2.2.2.2.1, u18.2.2.2.2.2.2.2.2.2.2.2.2.2.2.2.2)) (pc2 := 166) S 6 rfl h19 (by rw [eg20] <;> rfl) dX9_readDeed_165 rfl ?_
      refine v_aload_n (pc2 := 167) S 0 dX9_readDeed_166 rfl rfl rfl ?_
      refine v_dup (pc2 := 168) S dX9_readDeed_167 rfl rfl ?_
      refine v_get (v := .int u18.2.2.2.2.2.2.2.2.2.2.2.2.2.1) (pc2 := 171) S gf_X9_160 0 rfl rfl dX9_readDeed_168 rfl ?_
      refine v_iconst (v := 1) (pc2 := 172) S dX9_readDeed_171 (by decide) rfl ?_
      refine v_iadd (pc2 := 173) S dX9_readDeed_172 rfl ?_
      refine v_nm (fun z21 ez21 => ?_)
      have hw := hw z21 ez21
      refine v_put (ws2 := wMod G a0 (u18.1, u18.2.1, u18.2.2.1, u18.2.2.2.1, u18.2.2.2.2.1, u18.2.2.2.2.2.1, u18.2.2.2.2.2.2.1, u18.2.2.2.2.2.2.2.1, u18.2.2.2.2.2.2.2.2.1, u18.2.2.2.2.2.2.2.2.2.1, u18.2.2.2.2.2.2.2.2.2.2.1, u18.2.2.2.2.2.2.2.2.2.2.2.1, g20, z21, u18.2.2.2.2.2.2.2.2.2.2.2.2.2.2.1, u18.2.2.2.2.2.2.2.2.2.2.2.2.2.2.2.1, u18.2.2.2.2.2.2.2.2.2.2.2.2.2.2.2.2)) (pc2 := 176) S gf_X9_160 pf_X9_13 0 rfl rfl rfl (Nat.le_of_ble_eq_true rfl) rfl dX9_readDeed_173 rfl ?_
      refine v_iload (pc2 := 178) S 3 dX9_readDeed_176 rfl rfl ?_
      refine v_bipush (v := -4) (pc2 := 180) S dX9_readDeed_178 (by decide) rfl ?_
      refine v_icmp_eq (pc2 := 183) (tgt := 187) S dX9_readDeed_180 (by decide) rfl (fun c22 => ?_) (fun c22 => ?_)
      · have hw := hw.1 c22
        refine v_iconst (v := 0) (pc2 := 188) S dX9_readDeed_187 (by decide) rfl ?_
        exact v_zret S (by decide) ⟨(0 : Int32), (u18.1, u18.2.1, u18.2.2.1, u18.2.2.2.1, u18.2.2.2.2.1, u18.2.2.2.2.2.1, u18.2.2.2.2.2.2.1, u18.2.2.2.2.2.2.2.1, u18.2.2.2.2.2.2.2.2.1, u18.2.2.2.2.2.2.2.2.2.1, u18.2.2.2.2.2.2.2.2.2.2.1, u18.2.2.2.2.2.2.2.2.2.2.2.1, g20, z21, u18.2.2.2.2.2.2.2.2.2.2.2.2.2.2.1, u18.2.2.2.2.2.2.2.2.2.2.2.2.2.2.2.1, u18.2.2.2.2.2.2.2.2.2.2.2.2.2.2.2.2), rfl, (by decide), rfl, hw⟩ dX9_readDeed_188
      · have hw := hw.2 c22
        refine v_iconst (v := 1) (pc2 := 184) S dX9_readDeed_183 (by decide) rfl ?_
        refine v_goto (tgt := 188) S dX9_readDeed_184 (by decide) ?_
        exact v_zret S (by decide) ⟨(1 : Int32), (u18.1, u18.2.1, u18.2.2.1, u18.2.2.2.1, u18.2.2.2.2.1, u18.2.2.2.2.2.1, u18.2.2.2.2.2.2.1, u18.2.2.2.2.2.2.2.1, u18.2.2.2.2.2.2.2.2.1, u18.2.2.2.2.2.2.2.2.2.1, u18.2.2.2.2.2.2.2.2.2.2.1, u18.2.2.2.2.2.2.2.2.2.2.2.1, g20, z21, u18.2.2.2.2.2.2.2.2.2.2.2.2.2.2.1, u18.2.2.2.2.2.2.2.2.2.2.2.2.2.2.2.1, u18.2.2.2.2.2.2.2.2.2.2.2.2.2.2.2.2), rfl, (by decide), rfl, hw⟩ dX9_readDeed_188
    · have hw := hw.2 c12
      refine v_iconst (v := 0) (pc2 := 115) S dX9_readDeed_114 (by decide) rfl ?_
      exact v_zret S (by decide) ⟨(0 : Int32), w0, rfl, (by decide), rfl, hw⟩ dX9_readDeed_115
  have B104 : ∀ (x1 : Int32) (w0 : ModV), wp_X9_readDeed_B104 x1 w0 Q → V p l e { frames := 3, cells := 0, slots := 0, locals := 66 } s m args below meth c G (va_A (wMod G a0 v0) s.heap.size) 5 0 0 (MQ below (EQ G (wMod G a0 v0) s.heap.size (PB (fun u : ModV => wMod G a0 u) Q)) args s 0 0 (va_A (wMod G a0 v0) s.heap.size)) (wMod G a0 w0) 104 [(0, .ref a0.1), (1, .int x1)] [] := by
    intro x1 w0 hw
    refine v_iconst (v := 1) (pc2 := 105) S dX9_readDeed_104 (by decide) rfl ?_
    refine v_goto (tgt := 109) S dX9_readDeed_105 (by decide) ?_
    exact B109 x1 (1 : Int32) w0 hw
  have B108 : ∀ (x1 : Int32) (w0 : ModV), wp_X9_readDeed_B108 x1 w0 Q → V p l e { frames := 3, cells := 0, slots := 0, locals := 66 } s m args below meth c G (va_A (wMod G a0 v0) s.heap.size) 5 0 0 (MQ below (EQ G (wMod G a0 v0) s.heap.size (PB (fun u : ModV => wMod G a0 u) Q)) args s 0 0 (va_A (wMod G a0 v0) s.heap.size)) (wMod G a0 w0) 108 [(0, .ref a0.1), (1, .int x1)] [] := by
    intro x1 w0 hw
    refine v_iconst (v := 0) (pc2 := 109) S dX9_readDeed_108 (by decide) rfl ?_
    exact B109 x1 (0 : Int32) w0 hw
  have B67 : ∀ (x1 : Int32) (x2 : Int32) (w0 : ModV), wp_X9_readDeed_B67 x1 x2 w0 Q → V p l e { frames := 3, cells := 0, slots := 0, locals := 66 } s m args below meth c G (va_A (wMod G a0 v0) s.heap.size) 5 0 0 (MQ below (EQ G (wMod G a0 v0) s.heap.size (PB (fun u : ModV => wMod G a0 u) Q)) args s 0 0 (va_A (wMod G a0 v0) s.heap.size)) (wMod G a0 w0) 67 [(0, .ref a0.1), (1, .int x1), (2, .int x2)] [] := by
    intro x1 x2 w0 hw
    refine v_aload_n (pc2 := 68) S 0 dX9_readDeed_67 rfl rfl rfl ?_
    refine v_bipush (v := 111) (pc2 := 70) S dX9_readDeed_68 (by decide) rfl ?_
    refine v_bipush (v := 111) (pc2 := 72) S dX9_readDeed_70 (by decide) rfl ?_
    refine v_callV (pc2 := 75) (As := [.int (111 : Int32), .int (111 : Int32)]) (rest := []) S (c_X9_sees l G a0 w0 (111 : Int32) (111 : Int32) _ hw) mf_X9_sees u_986 u_988 u_44 0 9 rfl rfl rfl rfl ⟨rfl, rfl⟩ ⟨Nat.le_of_ble_eq_true rfl, Nat.le_of_ble_eq_true rfl⟩ ⟨Nat.le_of_ble_eq_true rfl, Nat.le_of_ble_eq_true rfl⟩ (Nat.le_of_ble_eq_true rfl) dX9_readDeed_72 (frW _) rfl (pb (fun r9 u10 br9 hw => ?_))
    refine v_to (wMod G a0 w0) 75 [(0, .ref a0.1), (1, .int x1), (2, .int x2)] _ [.int r9] rfl rfl rfl rfl ?_
    refine v_if_ne (pc2 := 78) (tgt := 104) S dX9_readDeed_75 (by decide) rfl (fun c11 => ?_) (fun c11 => ?_)
    · have hw := hw.1 c11
      refine v_lv [(0, .ref a0.1), (1, .int x1)] [0, 1] rfl ?_
      exact B104 x1 w0 hw
    · have hw := hw.2 c11
      refine v_aload_n (pc2 := 79) S 0 dX9_readDeed_78 rfl rfl rfl ?_
      refine v_bipush (v := 99) (pc2 := 81) S dX9_readDeed_79 (by decide) rfl ?_
      refine v_bipush (v := 99) (pc2 := 83) S dX9_readDeed_81 (by decide) rfl ?_
      refine v_callV (pc2 := 86) (As := [.int (99 : Int32), .int (99 : Int32)]) (rest := []) S (c_X9_sees l G a0 w0 (99 : Int32) (99 : Int32) _ hw) mf_X9_sees u_986 u_988 u_44 0 9 rfl rfl rfl rfl ⟨rfl, rfl⟩ ⟨Nat.le_of_ble_eq_true rfl, Nat.le_of_ble_eq_true rfl⟩ ⟨Nat.le_of_ble_eq_true rfl, Nat.le_of_ble_eq_true rfl⟩ (Nat.le_of_ble_eq_true rfl) dX9_readDeed_83 (frW _) rfl (pb (fun r23 u24 br23 hw => ?_))
      refine v_to (wMod G a0 w0) 86 [(0, .ref a0.1), (1, .int x1), (2, .int x2)] _ [.int r23] rfl rfl rfl rfl ?_
      refine v_if_ne (pc2 := 89) (tgt := 104) S dX9_readDeed_86 (by decide) rfl (fun c25 => ?_) (fun c25 => ?_)
      · have hw := hw.1 c25
        refine v_lv [(0, .ref a0.1), (1, .int x1)] [0, 1] rfl ?_
        exact B104 x1 w0 hw
      · have hw := hw.2 c25
        refine v_iload_n (pc2 := 90) S 2 dX9_readDeed_89 rfl rfl rfl ?_
        refine v_if_eq (pc2 := 93) (tgt := 108) S dX9_readDeed_90 (by decide) rfl (fun c26 => ?_) (fun c26 => ?_)
        · have hw := hw.1 c26
          refine v_lv [(0, .ref a0.1), (1, .int x1)] [0, 1] rfl ?_
          exact B108 x1 w0 hw
        · have hw := hw.2 c26
          refine v_aload_n (pc2 := 94) S 0 dX9_readDeed_93 rfl rfl rfl ?_
          refine v_bipush (v := 119) (pc2 := 96) S dX9_readDeed_94 (by decide) rfl ?_
          refine v_bipush (v := 119) (pc2 := 98) S dX9_readDeed_96 (by decide) rfl ?_
          refine v_callV (pc2 := 101) (As := [.int (119 : Int32), .int (119 : Int32)]) (rest := []) S (c_X9_sees l G a0 w0 (119 : Int32) (119 : Int32) _ hw) mf_X9_sees u_986 u_988 u_44 0 9 rfl rfl rfl rfl ⟨rfl, rfl⟩ ⟨Nat.le_of_ble_eq_true rfl, Nat.le_of_ble_eq_true rfl⟩ ⟨Nat.le_of_ble_eq_true rfl, Nat.le_of_ble_eq_true rfl⟩ (Nat.le_of_ble_eq_true rfl) dX9_readDeed_98 (frW _) rfl (pb (fun r27 u28 br27 hw => ?_))
          refine v_to (wMod G a0 w0) 101 [(0, .ref a0.1), (1, .int x1), (2, .int x2)] _ [.int r27] rfl rfl rfl rfl ?_
          refine v_if_eq (pc2 := 104) (tgt := 108) S dX9_readDeed_101 (by decide) rfl (fun c29 => ?_) (fun c29 => ?_)
          · have hw := hw.1 c29
            refine v_lv [(0, .ref a0.1), (1, .int x1)] [0, 1] rfl ?_
            exact B108 x1 w0 hw
          · have hw := hw.2 c29
            refine v_lv [(0, .ref a0.1), (1, .int x1)] [0, 1] rfl ?_
            exact B104 x1 w0 hw
  refine v_iconst (v := 4) (pc2 := 1) S dX9_readDeed_0 (by decide) rfl ?_
  refine v_aload_n (pc2 := 2) S 0 dX9_readDeed_1 rfl rfl rfl ?_
  refine v_get (v := .int v0.2.2.2.2.2.2.2.2.2.2.2.2.2.1) (pc2 := 5) S gf_X9_160 0 rfl rfl dX9_readDeed_2 rfl ?_
  refine v_imul (pc2 := 6) S dX9_readDeed_5 rfl ?_
  refine v_nm (fun z1 ez1 => ?_)
  have hw := hw z1 ez1
  refine v_istore_n (lv2 := [(0, .ref a0.1), (1, .int z1)]) (pc2 := 7) S dX9_readDeed_6 rfl (by decide) [1, 0] rfl rfl ?_
  refine v_aload_n (pc2 := 8) S 0 dX9_readDeed_7 rfl rfl rfl ?_
  refine v_get (v := .ref a0.2.2.2.2.2.2.1) (pc2 := 11) S gf_X9_35 0 rfl rfl dX9_readDeed_8 rfl ?_
  refine v_iload_n (pc2 := 12) S 1 dX9_readDeed_11 rfl rfl rfl ?_
  refine v_aload_n (pc2 := 13) S 0 dX9_readDeed_12 rfl rfl rfl ?_
  refine v_get (v := .int v0.2.2.2.2.2.2.2.2.2.2.2.1) (pc2 := 16) S gf_X9_154 0 rfl rfl dX9_readDeed_13 rfl ?_
  obtain ⟨h2, hw⟩ := hw
  obtain ⟨g3, eg3⟩ : ∃ y : Nat → Int32, y = upd v0.2.2.2.2.2.2.2.2.2.2.2.2.1 z1.toNatClampNeg v0.2.2.2.2.2.2.2.2.2.2.2.1 := ⟨_, rfl⟩
  have hw := hw g3 eg3
  refine v_iast (ws2 := wMod G a0 (v0.1, v0.2.1, v0.2.2.1, v0.2.2.2.1, v0.2.2.2.2.1, v0.2.2.2.2.2.1, v0.2.2.2.2.2.2.1, v0.2.2.2.2.2.2.2.1, v0.2.2.2.2.2.2.2.2.1, v0.2.2.2.2.2.2.2.2.2.1, v0.2.2.2.2.2.2.2.2.2.2.1, v0.2.2.2.2.2.2.2.2.2.2.2.1, g3, v0.2.2.2.2.2.2.2.2.2.2.2.2.2.1, v0.2.2.2.2.2.2.2.2.2.2.2.2.2.2.1, v0.2.2.2.2.2.2.2.2.2.2.2.2.2.2.2.1, v0.2.2.2.2.2.2.2.2.2.2.2.2.2.2.2.2)) (pc2 := 17) S 6 rfl h2 (by rw [eg3] <;> rfl) dX9_readDeed_16 rfl ?_
  refine v_aload_n (pc2 := 18) S 0 dX9_readDeed_17 rfl rfl rfl ?_
  refine v_get (v := .ref a0.2.2.2.2.2.2.1) (pc2 := 21) S gf_X9_35 0 rfl rfl dX9_readDeed_18 rfl ?_
  refine v_iload_n (pc2 := 22) S 1 dX9_readDeed_21 rfl rfl rfl ?_
  refine v_iconst (v := 2) (pc2 := 23) S dX9_readDeed_22 (by decide) rfl ?_
  refine v_iadd (pc2 := 24) S dX9_readDeed_23 rfl ?_
  refine v_bipush (v := -4) (pc2 := 26) S dX9_readDeed_24 (by decide) rfl ?_
  obtain ⟨h4, hw⟩ := hw
  obtain ⟨g5, eg5⟩ : ∃ y : Nat → Int32, y = upd g3 (z1 + (2 : Int32)).toNatClampNeg (-4 : Int32) := ⟨_, rfl⟩
  have hw := hw g5 eg5
  refine v_iast (ws2 := wMod G a0 (v0.1, v0.2.1, v0.2.2.1, v0.2.2.2.1, v0.2.2.2.2.1, v0.2.2.2.2.2.1, v0.2.2.2.2.2.2.1, v0.2.2.2.2.2.2.2.1, v0.2.2.2.2.2.2.2.2.1, v0.2.2.2.2.2.2.2.2.2.1, v0.2.2.2.2.2.2.2.2.2.2.1, v0.2.2.2.2.2.2.2.2.2.2.2.1, g5, v0.2.2.2.2.2.2.2.2.2.2.2.2.2.1, v0.2.2.2.2.2.2.2.2.2.2.2.2.2.2.1, v0.2.2.2.2.2.2.2.2.2.2.2.2.2.2.2.1, v0.2.2.2.2.2.2.2.2.2.2.2.2.2.2.2.2)) (pc2 := 27) S 6 rfl h4 (by rw [eg5] <;> rfl) dX9_readDeed_26 rfl ?_
  refine v_aload_n (pc2 := 28) S 0 dX9_readDeed_27 rfl rfl rfl ?_
  refine v_bipush (v := 103) (pc2 := 30) S dX9_readDeed_28 (by decide) rfl ?_
  refine v_callV (pc2 := 33) (As := [.int (103 : Int32)]) (rest := []) S (c_X9_takes l G a0 (v0.1, v0.2.1, v0.2.2.1, v0.2.2.2.1, v0.2.2.2.2.1, v0.2.2.2.2.2.1, v0.2.2.2.2.2.2.1, v0.2.2.2.2.2.2.2.1, v0.2.2.2.2.2.2.2.2.1, v0.2.2.2.2.2.2.2.2.2.1, v0.2.2.2.2.2.2.2.2.2.2.1, v0.2.2.2.2.2.2.2.2.2.2.2.1, g5, v0.2.2.2.2.2.2.2.2.2.2.2.2.2.1, v0.2.2.2.2.2.2.2.2.2.2.2.2.2.2.1, v0.2.2.2.2.2.2.2.2.2.2.2.2.2.2.2.1, v0.2.2.2.2.2.2.2.2.2.2.2.2.2.2.2.2) (103 : Int32) _ hw) mf_X9_takes u_982 u_984 u_43 0 9 rfl rfl rfl rfl ⟨rfl, rfl⟩ ⟨Nat.le_of_ble_eq_true rfl, Nat.le_of_ble_eq_true rfl⟩ ⟨Nat.le_of_ble_eq_true rfl, Nat.le_of_ble_eq_true rfl⟩ (Nat.le_of_ble_eq_true rfl) dX9_readDeed_30 (frW _) rfl (pb (fun r6 u7 br6 hw => ?_))
  refine v_to (wMod G a0 u7) 33 [(0, .ref a0.1), (1, .int z1)] _ [.int r6] rfl rfl rfl rfl ?_
  refine v_istore_n (lv2 := [(0, .ref a0.1), (1, .int z1), (2, .int r6)]) (pc2 := 34) S dX9_readDeed_33 rfl (by decide) [1, 2, 0] rfl rfl ?_
  refine v_iload_n (pc2 := 35) S 2 dX9_readDeed_34 rfl rfl rfl ?_
  refine v_if_eq (pc2 := 38) (tgt := 67) S dX9_readDeed_35 (by decide) rfl (fun c8 => ?_) (fun c8 => ?_)
  · have hw := hw.1 c8
    exact B67 z1 r6 u7 hw
  · have hw := hw.2 c8
    refine v_aload_n (pc2 := 39) S 0 dX9_readDeed_38 rfl rfl rfl ?_
    refine v_bipush (v := 48) (pc2 := 41) S dX9_readDeed_39 (by decide) rfl ?_
    refine v_bipush (v := 50) (pc2 := 43) S dX9_readDeed_41 (by decide) rfl ?_
    refine v_callV (pc2 := 46) (As := [.int (48 : Int32), .int (50 : Int32)]) (rest := []) S (c_X9_takesOne l G a0 u7 (48 : Int32) (50 : Int32) _ hw) mf_X9_takesOne u_990 u_992 u_45 0 9 rfl rfl rfl rfl ⟨rfl, rfl⟩ ⟨Nat.le_of_ble_eq_true rfl, Nat.le_of_ble_eq_true rfl⟩ ⟨Nat.le_of_ble_eq_true rfl, Nat.le_of_ble_eq_true rfl⟩ (Nat.le_of_ble_eq_true rfl) dX9_readDeed_43 (frW _) rfl (pi (fun r30 u31 hw => ?_))
    refine v_to (wMod G a0 u31) 46 [(0, .ref a0.1), (1, .int z1), (2, .int r6)] _ [.int r30] rfl rfl rfl rfl ?_
    refine v_istore_n (lv2 := [(0, .ref a0.1), (1, .int z1), (2, .int r6), (3, .int r30)]) (pc2 := 47) S dX9_readDeed_46 rfl (by decide) [1, 2, 3, 0] rfl rfl ?_
    refine v_iload_n (pc2 := 48) S 3 dX9_readDeed_47 rfl rfl rfl ?_
    refine v_bipush (v := -4) (pc2 := 50) S dX9_readDeed_48 (by decide) rfl ?_
    refine v_icmp_ne (pc2 := 53) (tgt := 55) S dX9_readDeed_50 (by decide) rfl (fun c32 => ?_) (fun c32 => ?_)
    · have hw := hw.1 c32
      refine v_aload_n (pc2 := 56) S 0 dX9_readDeed_55 rfl rfl rfl ?_
      refine v_get (v := .ref a0.2.2.2.2.2.2.1) (pc2 := 59) S gf_X9_35 0 rfl rfl dX9_readDeed_56 rfl ?_
      refine v_iload_n (pc2 := 60) S 1 dX9_readDeed_59 rfl rfl rfl ?_
      refine v_iconst (v := 2) (pc2 := 61) S dX9_readDeed_60 (by decide) rfl ?_
      refine v_iadd (pc2 := 62) S dX9_readDeed_61 rfl ?_
      refine v_iload_n (pc2 := 63) S 3 dX9_readDeed_62 rfl rfl rfl ?_
      refine v_bipush (v := 48) (pc2 := 65) S dX9_readDeed_63 (by decide) rfl ?_
      refine v_isub (pc2 := 66) S dX9_readDeed_65 rfl ?_
      obtain ⟨h33, hw⟩ := hw
      obtain ⟨g34, eg34⟩ : ∃ y : Nat → Int32, y = upd u31.2.2.2.2.2.2.2.2.2.2.2.2.1 (z1 + (2 : Int32)).toNatClampNeg (r30 - (48 : Int32)) := ⟨_, rfl⟩
      have hw := hw g34 eg34
      refine v_iast (ws2 := wMod G a0 (u31.1, u31.2.1, u31.2.2.1, u31.2.2.2.1, u31.2.2.2.2.1, u31.2.2.2.2.2.1, u31.2.2.2.2.2.2.1, u31.2.2.2.2.2.2.2.1, u31.2.2.2.2.2.2.2.2.1, u31.2.2.2.2.2.2.2.2.2.1, u31.2.2.2.2.2.2.2.2.2.2.1, u31.2.2.2.2.2.2.2.2.2.2.2.1, g34, u31.2.2.2.2.2.2.2.2.2.2.2.2.2.1, u31.2.2.2.2.2.2.2.2.2.2.2.2.2.2.1, u31.2.2.2.2.2.2.2.2.2.2.2.2.2.2.2.1, u31.2.2.2.2.2.2.2.2.2.2.2.2.2.2.2.2)) (pc2 := 67) S 6 rfl h33 (by rw [eg34] <;> rfl) dX9_readDeed_66 rfl ?_
      refine v_lv [(0, .ref a0.1), (1, .int z1), (2, .int r6)] [0, 1, 2] rfl ?_
      exact B67 z1 r6 (u31.1, u31.2.1, u31.2.2.1, u31.2.2.2.1, u31.2.2.2.2.1, u31.2.2.2.2.2.1, u31.2.2.2.2.2.2.1, u31.2.2.2.2.2.2.2.1, u31.2.2.2.2.2.2.2.2.1, u31.2.2.2.2.2.2.2.2.2.1, u31.2.2.2.2.2.2.2.2.2.2.1, u31.2.2.2.2.2.2.2.2.2.2.2.1, g34, u31.2.2.2.2.2.2.2.2.2.2.2.2.2.1, u31.2.2.2.2.2.2.2.2.2.2.2.2.2.2.1, u31.2.2.2.2.2.2.2.2.2.2.2.2.2.2.2.1, u31.2.2.2.2.2.2.2.2.2.2.2.2.2.2.2.2) hw
    · have hw := hw.2 c32
      refine v_iconst (v := 0) (pc2 := 54) S dX9_readDeed_53 (by decide) rfl ?_
      exact v_zret S (by decide) ⟨(0 : Int32), u31, rfl, (by decide), rfl, hw⟩ dX9_readDeed_54
set_option maxHeartbeats 4000000 in
set_option maxRecDepth 100000 in
theorem c_X9_readPad (l : Launch) (G : GG) (a0 : ModA) (v0 : ModV) (Q : Int32 → ModV → Prop) (hw : wp_X9_readPad v0 Q) : Con l G yX9_readPad cX9_readPad 2 (some .boolean) { frames := 4, cells := 0, slots := 0, locals := 90 } [.ref a0.1] (wMod G a0 v0) (PB (fun u : ModV => wMod G a0 u) Q) 0 0 := by
  refine con_of RX9 rfl (by decide) [(0, .ref a0.1)] rfl (Nat.le_of_ble_eq_true rfl) ?_
  intro p e s m args below meth c S hname
  have L15 : ∀ (kk : Nat) (x1 : Int32) (w0 : ModV), wp_X9_readPad_L15 Q kk x1 w0 → V p l e { frames := 4, cells := 0, slots := 0, locals := 90 } s m args below meth c G (va_A (wMod G a0 v0) s.heap.size) 2 0 0 (MQ below (EQ G (wMod G a0 v0) s.heap.size (PB (fun u : ModV => wMod G a0 u) Q)) args s 0 0 (va_A (wMod G a0 v0) s.heap.size)) (wMod G a0 w0) 15 [(0, .ref a0.1), (1, .int x1)] [] := by
    intro kk
    induction kk with
    | zero => intro x1 w0 hw; exact hw.elim
    | succ n ih =>
      intro x1 w0 hw
      refine v_iload_n (pc2 := 16) S 1 dX9_readPad_15 rfl rfl rfl ?_
      refine v_if_eq (pc2 := 19) (tgt := 55) S dX9_readPad_16 (by decide) rfl (fun c3 => ?_) (fun c3 => ?_)
      · have hw := hw.1 c3
        refine v_iload_n (pc2 := 56) S 1 dX9_readPad_55 rfl rfl rfl ?_
        obtain ⟨hb, hw⟩ := hw
        exact v_zret S hb ⟨x1, w0, rfl, hb, rfl, hw⟩ dX9_readPad_56
      · have hw := hw.2 c3
        refine v_aload_n (pc2 := 20) S 0 dX9_readPad_19 rfl rfl rfl ?_
        refine v_get (v := .int w0.2.2.2.2.2.2.2.2.2.2.2.1) (pc2 := 23) S gf_X9_154 0 rfl rfl dX9_readPad_20 rfl ?_
        refine v_aload_n (pc2 := 24) S 0 dX9_readPad_23 rfl rfl rfl ?_
        refine v_get (v := .int w0.2.2.2.2.2.2.2.1) (pc2 := 27) S gf_X9_151 0 rfl rfl dX9_readPad_24 rfl ?_
        refine v_icmp_ge (pc2 := 30) (tgt := 55) S dX9_readPad_27 (by decide) rfl (fun c4 => ?_) (fun c4 => ?_)
        · have hw := hw.1 c4
          refine v_iload_n (pc2 := 56) S 1 dX9_readPad_55 rfl rfl rfl ?_
          obtain ⟨hb, hw⟩ := hw
          exact v_zret S hb ⟨x1, w0, rfl, hb, rfl, hw⟩ dX9_readPad_56
        · have hw := hw.2 c4
          refine v_aload_n (pc2 := 31) S 0 dX9_readPad_30 rfl rfl rfl ?_
          refine v_bipush (v := 59) (pc2 := 33) S dX9_readPad_31 (by decide) rfl ?_
          refine v_callV (pc2 := 36) (As := [.int (59 : Int32)]) (rest := []) S (c_X9_takes l G a0 w0 (59 : Int32) _ hw) mf_X9_takes u_982 u_984 u_43 0 9 rfl rfl rfl rfl ⟨rfl, rfl⟩ ⟨Nat.le_of_ble_eq_true rfl, Nat.le_of_ble_eq_true rfl⟩ ⟨Nat.le_of_ble_eq_true rfl, Nat.le_of_ble_eq_true rfl⟩ (Nat.le_of_ble_eq_true rfl) dX9_readPad_33 (frW _) rfl (pb (fun r5 u6 br5 hw => ?_))
          refine v_to (wMod G a0 u6) 36 [(0, .ref a0.1), (1, .int x1)] _ [.int r5] rfl rfl rfl rfl ?_
          refine v_if_eq (pc2 := 39) (tgt := 50) S dX9_readPad_36 (by decide) rfl (fun c7 => ?_) (fun c7 => ?_)
          · have hw := hw.1 c7
            refine v_iconst (v := 0) (pc2 := 51) S dX9_readPad_50 (by decide) rfl ?_
            refine v_istore_n (lv2 := [(0, .ref a0.1), (1, .int (0 : Int32))]) (pc2 := 52) S dX9_readPad_51 rfl (by decide) [1, 0] rfl rfl ?_
            refine v_goto (tgt := 15) S dX9_readPad_52 (by decide) ?_
            exact ih (0 : Int32) u6 hw
          · have hw := hw.2 c7
            refine v_aload_n (pc2 := 40) S 0 dX9_readPad_39 rfl rfl rfl ?_
            refine v_callV (pc2 := 43) (As := []) (rest := []) S (c_X9_readDeed l G a0 u6 _ hw) mf_X9_readDeed u_978 u_980 u_42 0 9 rfl rfl rfl rfl ⟨rfl, rfl⟩ ⟨Nat.le_of_ble_eq_true rfl, Nat.le_of_ble_eq_true rfl⟩ ⟨Nat.le_of_ble_eq_true rfl, Nat.le_of_ble_eq_true rfl⟩ (Nat.le_of_ble_eq_true rfl) dX9_readPad_40 (frW _) rfl (pb (fun r8 u9 br8 hw => ?_))
            refine v_to (wMod G a0 u9) 43 [(0, .ref a0.1), (1, .int x1)] _ [.int r8] rfl rfl rfl rfl ?_
            refine v_if_eq (pc2 := 46) (tgt := 50) S dX9_readPad_43 (by decide) rfl (fun c10 => ?_) (fun c10 => ?_)
            · have hw := hw.1 c10
              refine v_iconst (v := 0) (pc2 := 51) S dX9_readPad_50 (by decide) rfl ?_
              refine v_istore_n (lv2 := [(0, .ref a0.1), (1, .int (0 : Int32))]) (pc2 := 52) S dX9_readPad_51 rfl (by decide) [1, 0] rfl rfl ?_
              refine v_goto (tgt := 15) S dX9_readPad_52 (by decide) ?_
              exact ih (0 : Int32) u9 hw
            · have hw := hw.2 c10
              refine v_iconst (v := 1) (pc2 := 47) S dX9_readPad_46 (by decide) rfl ?_
              refine v_goto (tgt := 51) S dX9_readPad_47 (by decide) ?_
              refine v_istore_n (lv2 := [(0, .ref a0.1), (1, .int (1 : Int32))]) (pc2 := 52) S dX9_readPad_51 rfl (by decide) [1, 0] rfl rfl ?_
              refine v_goto (tgt := 15) S dX9_readPad_52 (by decide) ?_
              exact ih (1 : Int32) u9 hw
  refine v_aload_n (pc2 := 1) S 0 dX9_readPad_0 rfl rfl rfl ?_
  refine v_iconst (v := 0) (pc2 := 2) S dX9_readPad_1 (by decide) rfl ?_
  refine v_put (ws2 := wMod G a0 (v0.1, v0.2.1, v0.2.2.1, v0.2.2.2.1, v0.2.2.2.2.1, v0.2.2.2.2.2.1, v0.2.2.2.2.2.2.1, v0.2.2.2.2.2.2.2.1, v0.2.2.2.2.2.2.2.2.1, v0.2.2.2.2.2.2.2.2.2.1, v0.2.2.2.2.2.2.2.2.2.2.1, (0 : Int32), v0.2.2.2.2.2.2.2.2.2.2.2.2.1, v0.2.2.2.2.2.2.2.2.2.2.2.2.2.1, v0.2.2.2.2.2.2.2.2.2.2.2.2.2.2.1, v0.2.2.2.2.2.2.2.2.2.2.2.2.2.2.2.1, v0.2.2.2.2.2.2.2.2.2.2.2.2.2.2.2.2)) (pc2 := 5) S gf_X9_154 pf_X9_11 0 rfl rfl rfl (Nat.le_of_ble_eq_true rfl) rfl dX9_readPad_2 rfl ?_
  refine v_aload_n (pc2 := 6) S 0 dX9_readPad_5 rfl rfl rfl ?_
  refine v_iconst (v := 0) (pc2 := 7) S dX9_readPad_6 (by decide) rfl ?_
  refine v_put (ws2 := wMod G a0 (v0.1, v0.2.1, v0.2.2.1, v0.2.2.2.1, v0.2.2.2.2.1, v0.2.2.2.2.2.1, v0.2.2.2.2.2.2.1, v0.2.2.2.2.2.2.2.1, v0.2.2.2.2.2.2.2.2.1, v0.2.2.2.2.2.2.2.2.2.1, v0.2.2.2.2.2.2.2.2.2.2.1, (0 : Int32), v0.2.2.2.2.2.2.2.2.2.2.2.2.1, (0 : Int32), v0.2.2.2.2.2.2.2.2.2.2.2.2.2.2.1, v0.2.2.2.2.2.2.2.2.2.2.2.2.2.2.2.1, v0.2.2.2.2.2.2.2.2.2.2.2.2.2.2.2.2)) (pc2 := 10) S gf_X9_160 pf_X9_13 0 rfl rfl rfl (Nat.le_of_ble_eq_true rfl) rfl dX9_readPad_7 rfl ?_
  refine v_aload_n (pc2 := 11) S 0 dX9_readPad_10 rfl rfl rfl ?_
  refine v_callV (pc2 := 14) (As := []) (rest := []) S (c_X9_readDeed l G a0 (v0.1, v0.2.1, v0.2.2.1, v0.2.2.2.1, v0.2.2.2.2.1, v0.2.2.2.2.2.1, v0.2.2.2.2.2.2.1, v0.2.2.2.2.2.2.2.1, v0.2.2.2.2.2.2.2.2.1, v0.2.2.2.2.2.2.2.2.2.1, v0.2.2.2.2.2.2.2.2.2.2.1, (0 : Int32), v0.2.2.2.2.2.2.2.2.2.2.2.2.1, (0 : Int32), v0.2.2.2.2.2.2.2.2.2.2.2.2.2.2.1, v0.2.2.2.2.2.2.2.2.2.2.2.2.2.2.2.1, v0.2.2.2.2.2.2.2.2.2.2.2.2.2.2.2.2) _ hw) mf_X9_readDeed u_978 u_980 u_42 0 9 rfl rfl rfl rfl ⟨rfl, rfl⟩ ⟨Nat.le_of_ble_eq_true rfl, Nat.le_of_ble_eq_true rfl⟩ ⟨Nat.le_of_ble_eq_true rfl, Nat.le_of_ble_eq_true rfl⟩ (Nat.le_of_ble_eq_true rfl) dX9_readPad_11 (frW _) rfl (pb (fun r1 u2 br1 hw => ?_))
  refine v_to (wMod G a0 u2) 14 [(0, .ref a0.1)] _ [.int r1] rfl rfl rfl rfl ?_
  refine v_istore_n (lv2 := [(0, .ref a0.1), (1, .int r1)]) (pc2 := 15) S dX9_readPad_14 rfl (by decide) [1, 0] rfl rfl ?_
  obtain ⟨kk, hw⟩ := hw
  exact L15 kk r1 u2 hw
set_option maxHeartbeats 4000000 in
set_option maxRecDepth 100000 in
theorem c_X9_fault (l : Launch) (G : GG) (a0 : ModA) (v0 : ModV) (Q : Int32 → ModV → Prop) (hw : wp_X9_fault v0 Q) : Con l G yX9_fault cX9_fault 1 (some .int) { frames := 5, cells := 0, slots := 0, locals := 111 } [.ref a0.1] (wMod G a0 v0) (PI (fun u : ModV => wMod G a0 u) Q) 0 0 := by
  refine con_of RX9 rfl (by decide) [(0, .ref a0.1)] rfl (Nat.le_of_ble_eq_true rfl) ?_
  intro p e s m args below meth c S hname
  refine v_aload_n (pc2 := 1) S 0 dX9_fault_0 rfl rfl rfl ?_
  refine v_callV (pc2 := 4) (As := []) (rest := []) S (c_X9_readPad l G a0 v0 _ hw) mf_X9_readPad u_974 u_976 u_41 0 9 rfl rfl rfl rfl ⟨rfl, rfl⟩ ⟨Nat.le_of_ble_eq_true rfl, Nat.le_of_ble_eq_true rfl⟩ ⟨Nat.le_of_ble_eq_true rfl, Nat.le_of_ble_eq_true rfl⟩ (Nat.le_of_ble_eq_true rfl) dX9_fault_1 (frW _) rfl (pb (fun r1 u2 br1 hw => ?_))
  refine v_to (wMod G a0 u2) 4 [(0, .ref a0.1)] _ [.int r1] rfl rfl rfl rfl ?_
  refine v_if_eq (pc2 := 7) (tgt := 12) S dX9_fault_4 (by decide) rfl (fun c3 => ?_) (fun c3 => ?_)
  · have hw := hw.1 c3
    refine v_aload_n (pc2 := 13) S 0 dX9_fault_12 rfl rfl rfl ?_
    refine v_get (v := .int u2.2.2.2.2.2.2.2.2.2.2.2.1) (pc2 := 16) S gf_X9_154 0 rfl rfl dX9_fault_13 rfl ?_
    exact v_iret S ⟨u2.2.2.2.2.2.2.2.2.2.2.2.1, u2, rfl, rfl, hw⟩ dX9_fault_16
  · have hw := hw.2 c3
    refine v_bipush (v := -4) (pc2 := 9) S dX9_fault_7 (by decide) rfl ?_
    refine v_goto (tgt := 16) S dX9_fault_9 (by decide) ?_
    exact v_iret S ⟨(-4 : Int32), u2, rfl, rfl, hw⟩ dX9_fault_16
set_option maxHeartbeats 4000000 in
set_option maxRecDepth 100000 in
theorem c_X9_doDeed (l : Launch) (G : GG) (a0 : ModA) (v0 : ModV) (i0 : Int32) (Q : Int32 → ModV → Prop) (hw : wp_X9_doDeed v0 i0 Q) : Con l G yX9_doDeed cX9_doDeed 4 (some .int) { frames := 6, cells := 0, slots := 0, locals := 135 } [.ref a0.1, .int i0] (wMod G a0 v0) (PI (fun u : ModV => wMod G a0 u) Q) 0 0 := by
  refine con_of RX9 rfl (by decide) [(0, .ref a0.1), (1, .int i0)] rfl (Nat.le_of_ble_eq_true rfl) ?_
  intro p e s m args below meth c S hname
  refine v_aload_n (pc2 := 1) S 0 dX9_doDeed_0 rfl rfl rfl ?_
  refine v_get (v := .ref a0.2.2.2.2.2.2.1) (pc2 := 4) S gf_X9_35 0 rfl rfl dX9_doDeed_1 rfl ?_
  refine v_iconst (v := 4) (pc2 := 5) S dX9_doDeed_4 (by decide) rfl ?_
  refine v_iload_n (pc2 := 6) S 1 dX9_doDeed_5 rfl rfl rfl ?_
  refine v_imul (pc2 := 7) S dX9_doDeed_6 rfl ?_
  refine v_iconst (v := 2) (pc2 := 8) S dX9_doDeed_7 (by decide) rfl ?_
  refine v_iadd (pc2 := 9) S dX9_doDeed_8 rfl ?_
  obtain ⟨h1, hw⟩ := hw
  refine v_iald (pc2 := 10) S 6 rfl h1 dX9_doDeed_9 rfl ?_
  refine v_nm (fun z2 ez2 => ?_)
  have hw := hw z2 ez2
  refine v_istore_n (lv2 := [(0, .ref a0.1), (1, .int i0), (2, .int z2)]) (pc2 := 11) S dX9_doDeed_10 rfl (by decide) [1, 2, 0] rfl rfl ?_
  refine v_aload_n (pc2 := 12) S 0 dX9_doDeed_11 rfl rfl rfl ?_
  refine v_get (v := .ref a0.2.2.2.2.2.2.1) (pc2 := 15) S gf_X9_35 0 rfl rfl dX9_doDeed_12 rfl ?_
  refine v_iconst (v := 4) (pc2 := 16) S dX9_doDeed_15 (by decide) rfl ?_
  refine v_iload_n (pc2 := 17) S 1 dX9_doDeed_16 rfl rfl rfl ?_
  refine v_imul (pc2 := 18) S dX9_doDeed_17 rfl ?_
  refine v_iconst (v := 3) (pc2 := 19) S dX9_doDeed_18 (by decide) rfl ?_
  refine v_iadd (pc2 := 20) S dX9_doDeed_19 rfl ?_
  obtain ⟨h3, hw⟩ := hw
  refine v_iald (pc2 := 21) S 6 rfl h3 dX9_doDeed_20 rfl ?_
  refine v_nm (fun z4 ez4 => ?_)
  have hw := hw z4 ez4
  refine v_istore_n (lv2 := [(0, .ref a0.1), (1, .int i0), (2, .int z2), (3, .int z4)]) (pc2 := 22) S dX9_doDeed_21 rfl (by decide) [1, 2, 3, 0] rfl rfl ?_
  refine v_aload_n (pc2 := 23) S 0 dX9_doDeed_22 rfl rfl rfl ?_
  refine v_get (v := .ref a0.2.2.2.2.2.2.1) (pc2 := 26) S gf_X9_35 0 rfl rfl dX9_doDeed_23 rfl ?_
  refine v_iconst (v := 4) (pc2 := 27) S dX9_doDeed_26 (by decide) rfl ?_
  refine v_iload_n (pc2 := 28) S 1 dX9_doDeed_27 rfl rfl rfl ?_
  refine v_imul (pc2 := 29) S dX9_doDeed_28 rfl ?_
  refine v_iconst (v := 1) (pc2 := 30) S dX9_doDeed_29 (by decide) rfl ?_
  refine v_iadd (pc2 := 31) S dX9_doDeed_30 rfl ?_
  obtain ⟨h5, hw⟩ := hw
  refine v_iald (pc2 := 32) S 6 rfl h5 dX9_doDeed_31 rfl ?_
  refine v_nm (fun z6 ez6 => ?_)
  have hw := hw z6 ez6
  by_cases c7 : z6 = (99 : Int32)
  · have hw := hw.1 c7
    refine v_lookup (off := 49) (tgt := 81) S dX9_doDeed_32 (by decide) (by rw [c7]; decide) (by decide) ?_
    refine v_iload_n (pc2 := 82) S 2 dX9_doDeed_81 rfl rfl rfl ?_
    refine v_bipush (v := -4) (pc2 := 84) S dX9_doDeed_82 (by decide) rfl ?_
    refine v_icmp_ne (pc2 := 87) (tgt := 95) S dX9_doDeed_84 (by decide) rfl (fun c8 => ?_) (fun c8 => ?_)
    · have hw := hw.1 c8
      refine v_aload_n (pc2 := 96) S 0 dX9_doDeed_95 rfl rfl rfl ?_
      refine v_iload_n (pc2 := 97) S 2 dX9_doDeed_96 rfl rfl rfl ?_
      refine v_iload_n (pc2 := 98) S 3 dX9_doDeed_97 rfl rfl rfl ?_
      refine v_callV (pc2 := 101) (As := [.int z2, .int z4]) (rest := []) S (c_X9_guestShutsNow l G a0 v0 z2 z4 _ hw) mf_X9_guestShutsNow u_919 u_921 u_36 0 9 rfl rfl rfl rfl ⟨rfl, rfl⟩ ⟨Nat.le_of_ble_eq_true rfl, Nat.le_of_ble_eq_true rfl⟩ ⟨Nat.le_of_ble_eq_true rfl, Nat.le_of_ble_eq_true rfl⟩ (Nat.le_of_ble_eq_true rfl) dX9_doDeed_98 (frW _) rfl (pi (fun r9 u10 hw => ?_))
      refine v_to (wMod G a0 u10) 101 [(0, .ref a0.1), (1, .int i0), (2, .int z2), (3, .int z4)] _ [.int r9] rfl rfl rfl rfl ?_
      exact v_iret S ⟨r9, u10, rfl, rfl, hw⟩ dX9_doDeed_101
    · have hw := hw.2 c8
      refine v_aload_n (pc2 := 88) S 0 dX9_doDeed_87 rfl rfl rfl ?_
      refine v_iload_n (pc2 := 89) S 3 dX9_doDeed_88 rfl rfl rfl ?_
      refine v_callV (pc2 := 92) (As := [.int z4]) (rest := []) S (c_X9_shutNow l G a0 v0 z4 _ hw) mf_X9_shutNow u_888 u_890 u_31 0 9 rfl rfl rfl rfl ⟨rfl, rfl⟩ ⟨Nat.le_of_ble_eq_true rfl, Nat.le_of_ble_eq_true rfl⟩ ⟨Nat.le_of_ble_eq_true rfl, Nat.le_of_ble_eq_true rfl⟩ (Nat.le_of_ble_eq_true rfl) dX9_doDeed_89 (frW _) rfl (pi (fun r11 u12 hw => ?_))
      refine v_to (wMod G a0 u12) 92 [(0, .ref a0.1), (1, .int i0), (2, .int z2), (3, .int z4)] _ [.int r11] rfl rfl rfl rfl ?_
      refine v_goto (tgt := 101) S dX9_doDeed_92 (by decide) ?_
      exact v_iret S ⟨r11, u12, rfl, rfl, hw⟩ dX9_doDeed_101
  · have hw := hw.2
    by_cases c13 : z6 = (111 : Int32)
    · have hw := hw.1 c13
      refine v_lookup (off := 28) (tgt := 60) S dX9_doDeed_32 (by decide) (by rw [c13]; decide) (by decide) ?_
      refine v_iload_n (pc2 := 61) S 2 dX9_doDeed_60 rfl rfl rfl ?_
      refine v_bipush (v := -4) (pc2 := 63) S dX9_doDeed_61 (by decide) rfl ?_
      refine v_icmp_ne (pc2 := 66) (tgt := 74) S dX9_doDeed_63 (by decide) rfl (fun c14 => ?_) (fun c14 => ?_)
      · have hw := hw.1 c14
        refine v_aload_n (pc2 := 75) S 0 dX9_doDeed_74 rfl rfl rfl ?_
        refine v_iload_n (pc2 := 76) S 2 dX9_doDeed_75 rfl rfl rfl ?_
        refine v_iload_n (pc2 := 77) S 3 dX9_doDeed_76 rfl rfl rfl ?_
        refine v_callV (pc2 := 80) (As := [.int z2, .int z4]) (rest := []) S (c_X9_guestOpensNow l G a0 v0 z2 z4 _ hw) mf_X9_guestOpensNow u_899 u_901 u_32 0 9 rfl rfl rfl rfl ⟨rfl, rfl⟩ ⟨Nat.le_of_ble_eq_true rfl, Nat.le_of_ble_eq_true rfl⟩ ⟨Nat.le_of_ble_eq_true rfl, Nat.le_of_ble_eq_true rfl⟩ (Nat.le_of_ble_eq_true rfl) dX9_doDeed_77 (frW _) rfl (pi (fun r15 u16 hw => ?_))
        refine v_to (wMod G a0 u16) 80 [(0, .ref a0.1), (1, .int i0), (2, .int z2), (3, .int z4)] _ [.int r15] rfl rfl rfl rfl ?_
        exact v_iret S ⟨r15, u16, rfl, rfl, hw⟩ dX9_doDeed_80
      · have hw := hw.2 c14
        refine v_aload_n (pc2 := 67) S 0 dX9_doDeed_66 rfl rfl rfl ?_
        refine v_iload_n (pc2 := 68) S 3 dX9_doDeed_67 rfl rfl rfl ?_
        refine v_callV (pc2 := 71) (As := [.int z4]) (rest := []) S (c_X9_openNow l G a0 v0 z4 _ hw) mf_X9_openNow u_840 u_842 u_20 0 9 rfl rfl rfl rfl ⟨rfl, rfl⟩ ⟨Nat.le_of_ble_eq_true rfl, Nat.le_of_ble_eq_true rfl⟩ ⟨Nat.le_of_ble_eq_true rfl, Nat.le_of_ble_eq_true rfl⟩ (Nat.le_of_ble_eq_true rfl) dX9_doDeed_68 (frW _) rfl (pi (fun r17 u18 hw => ?_))
        refine v_to (wMod G a0 u18) 71 [(0, .ref a0.1), (1, .int i0), (2, .int z2), (3, .int z4)] _ [.int r17] rfl rfl rfl rfl ?_
        refine v_goto (tgt := 80) S dX9_doDeed_71 (by decide) ?_
        exact v_iret S ⟨r17, u18, rfl, rfl, hw⟩ dX9_doDeed_80
    · have hw := hw.2
      have hw := hw c7 c13
      refine v_lookup (off := 70) (tgt := 102) S dX9_doDeed_32 (by decide) (lk_out99_111 c7 c13) (by decide) ?_
      refine v_aload_n (pc2 := 103) S 0 dX9_doDeed_102 rfl rfl rfl ?_
      refine v_iload_n (pc2 := 104) S 2 dX9_doDeed_103 rfl rfl rfl ?_
      refine v_iload_n (pc2 := 105) S 3 dX9_doDeed_104 rfl rfl rfl ?_
      refine v_callV (pc2 := 108) (As := [.int z2, .int z4]) (rest := []) S (c_X9_walkNow l G a0 v0 z2 z4 _ hw) mf_X9_walkNow u_927 u_929 u_37 0 9 rfl rfl rfl rfl ⟨rfl, rfl⟩ ⟨Nat.le_of_ble_eq_true rfl, Nat.le_of_ble_eq_true rfl⟩ ⟨Nat.le_of_ble_eq_true rfl, Nat.le_of_ble_eq_true rfl⟩ (Nat.le_of_ble_eq_true rfl) dX9_doDeed_105 (frW _) rfl (pi (fun r19 u20 hw => ?_))
      refine v_to (wMod G a0 u20) 108 [(0, .ref a0.1), (1, .int i0), (2, .int z2), (3, .int z4)] _ [.int r19] rfl rfl rfl rfl ?_
      exact v_iret S ⟨r19, u20, rfl, rfl, hw⟩ dX9_doDeed_108
set_option maxHeartbeats 4000000 in
set_option maxRecDepth 100000 in
theorem c_X9_run (l : Launch) (G : GG) (a0 : ModA) (v0 : ModV) (Q : Int32 → ModV → Prop) (hw : wp_X9_run v0 Q) : Con l G yX9_run cX9_run 3 (some .int) { frames := 7, cells := 0, slots := 0, locals := 158 } [.ref a0.1] (wMod G a0 v0) (PI (fun u : ModV => wMod G a0 u) Q) 0 0 := by
  refine con_of RX9 rfl (by decide) [(0, .ref a0.1)] rfl (Nat.le_of_ble_eq_true rfl) ?_
  intro p e s m args below meth c S hname
  have L39 : ∀ (kk : Nat) (x1 : Int32) (w0 : ModV), wp_X9_run_L39 Q kk x1 w0 → V p l e { frames := 7, cells := 0, slots := 0, locals := 158 } s m args below meth c G (va_A (wMod G a0 v0) s.heap.size) 3 0 0 (MQ below (EQ G (wMod G a0 v0) s.heap.size (PI (fun u : ModV => wMod G a0 u) Q)) args s 0 0 (va_A (wMod G a0 v0) s.heap.size)) (wMod G a0 w0) 39 [(0, .ref a0.1), (1, .int x1)] [] := by
    intro kk
    induction kk with
    | zero => intro x1 w0 hw; exact hw.elim
    | succ n ih =>
      intro x1 w0 hw
      refine v_iload_n (pc2 := 40) S 1 dX9_run_39 rfl rfl rfl ?_
      refine v_aload_n (pc2 := 41) S 0 dX9_run_40 rfl rfl rfl ?_
      refine v_get (v := .int w0.2.2.2.2.2.2.2.2.2.2.2.2.2.1) (pc2 := 44) S gf_X9_160 0 rfl rfl dX9_run_41 rfl ?_
      refine v_icmp_ge (pc2 := 47) (tgt := 89) S dX9_run_44 (by decide) rfl (fun c6 => ?_) (fun c6 => ?_)
      · have hw := hw.1 c6
        refine v_aload_n (pc2 := 90) S 0 dX9_run_89 rfl rfl rfl ?_
        refine v_get (v := .int w0.2.2.2.2.2.2.2.2.2.2.2.2.2.1) (pc2 := 93) S gf_X9_160 0 rfl rfl dX9_run_90 rfl ?_
        exact v_iret S ⟨w0.2.2.2.2.2.2.2.2.2.2.2.2.2.1, w0, rfl, rfl, hw⟩ dX9_run_93
      · have hw := hw.2 c6
        refine v_aload_n (pc2 := 48) S 0 dX9_run_47 rfl rfl rfl ?_
        refine v_iload_n (pc2 := 49) S 1 dX9_run_48 rfl rfl rfl ?_
        refine v_callV (pc2 := 52) (As := [.int x1]) (rest := []) S (c_X9_doDeed l G a0 w0 x1 _ hw) mf_X9_doDeed u_998 u_1000 u_46 0 9 rfl rfl rfl rfl ⟨rfl, rfl⟩ ⟨Nat.le_of_ble_eq_true rfl, Nat.le_of_ble_eq_true rfl⟩ ⟨Nat.le_of_ble_eq_true rfl, Nat.le_of_ble_eq_true rfl⟩ (Nat.le_of_ble_eq_true rfl) dX9_run_49 (frW _) rfl (pi (fun r7 u8 hw => ?_))
        refine v_to (wMod G a0 u8) 52 [(0, .ref a0.1), (1, .int x1)] _ [.int r7] rfl rfl rfl rfl ?_
        refine v_istore_n (lv2 := [(0, .ref a0.1), (1, .int x1), (2, .int r7)]) (pc2 := 53) S dX9_run_52 rfl (by decide) [1, 2, 0] rfl rfl ?_
        refine v_iload_n (pc2 := 54) S 2 dX9_run_53 rfl rfl rfl ?_
        refine v_bipush (v := 10) (pc2 := 56) S dX9_run_54 (by decide) rfl ?_
        refine v_icmp_ge (pc2 := 59) (tgt := 83) S dX9_run_56 (by decide) rfl (fun c9 => ?_) (fun c9 => ?_)
        · have hw := hw.1 c9
          obtain ⟨z10, ez10⟩ : ∃ y : Int32, y = x1 + (1 : Int32) := ⟨_, rfl⟩
          have hw := hw z10 ez10
          refine v_iinc (v := z10) (lv2 := [(0, .ref a0.1), (1, .int z10), (2, .int r7)]) (pc2 := 86) S 1 dX9_run_83 rfl (by rw [ez10]; rfl) (by decide) [1, 0, 2] rfl rfl ?_
          refine v_goto (tgt := 39) S dX9_run_86 (by decide) ?_
          refine v_lv [(0, .ref a0.1), (1, .int z10)] [0, 1] rfl ?_
          exact ih z10 u8 hw
        · have hw := hw.2 c9
          refine v_aload_n (pc2 := 60) S 0 dX9_run_59 rfl rfl rfl ?_
          refine v_iload_n (pc2 := 61) S 2 dX9_run_60 rfl rfl rfl ?_
          refine v_put (ws2 := wMod G a0 (u8.1, u8.2.1, u8.2.2.1, u8.2.2.2.1, u8.2.2.2.2.1, u8.2.2.2.2.2.1, u8.2.2.2.2.2.2.1, u8.2.2.2.2.2.2.2.1, r7, u8.2.2.2.2.2.2.2.2.2.1, u8.2.2.2.2.2.2.2.2.2.2.1, u8.2.2.2.2.2.2.2.2.2.2.2.1, u8.2.2.2.2.2.2.2.2.2.2.2.2.1, u8.2.2.2.2.2.2.2.2.2.2.2.2.2.1, u8.2.2.2.2.2.2.2.2.2.2.2.2.2.2.1, u8.2.2.2.2.2.2.2.2.2.2.2.2.2.2.2.1, u8.2.2.2.2.2.2.2.2.2.2.2.2.2.2.2.2)) (pc2 := 64) S gf_X9_25 pf_X9_8 0 rfl rfl rfl (Nat.le_of_ble_eq_true rfl) rfl dX9_run_61 rfl ?_
          refine v_aload_n (pc2 := 65) S 0 dX9_run_64 rfl rfl rfl ?_
          refine v_iload_n (pc2 := 66) S 1 dX9_run_65 rfl rfl rfl ?_
          refine v_put (ws2 := wMod G a0 (u8.1, u8.2.1, u8.2.2.1, u8.2.2.2.1, u8.2.2.2.2.1, u8.2.2.2.2.2.1, u8.2.2.2.2.2.2.1, u8.2.2.2.2.2.2.2.1, r7, x1, u8.2.2.2.2.2.2.2.2.2.2.1, u8.2.2.2.2.2.2.2.2.2.2.2.1, u8.2.2.2.2.2.2.2.2.2.2.2.2.1, u8.2.2.2.2.2.2.2.2.2.2.2.2.2.1, u8.2.2.2.2.2.2.2.2.2.2.2.2.2.2.1, u8.2.2.2.2.2.2.2.2.2.2.2.2.2.2.2.1, u8.2.2.2.2.2.2.2.2.2.2.2.2.2.2.2.2)) (pc2 := 69) S gf_X9_29 pf_X9_9 0 rfl rfl rfl (Nat.le_of_ble_eq_true rfl) rfl dX9_run_66 rfl ?_
          refine v_aload_n (pc2 := 70) S 0 dX9_run_69 rfl rfl rfl ?_
          refine v_aload_n (pc2 := 71) S 0 dX9_run_70 rfl rfl rfl ?_
          refine v_get (v := .ref a0.2.2.2.2.2.2.1) (pc2 := 74) S gf_X9_35 0 rfl rfl dX9_run_71 rfl ?_
          refine v_iconst (v := 4) (pc2 := 75) S dX9_run_74 (by decide) rfl ?_
          refine v_iload_n (pc2 := 76) S 1 dX9_run_75 rfl rfl rfl ?_
          refine v_imul (pc2 := 77) S dX9_run_76 rfl ?_
          obtain ⟨h11, hw⟩ := hw
          refine v_iald (pc2 := 78) S 6 rfl h11 dX9_run_77 rfl ?_
          refine v_nm (fun z12 ez12 => ?_)
          have hw := hw z12 ez12
          refine v_put (ws2 := wMod G a0 (u8.1, u8.2.1, u8.2.2.1, u8.2.2.2.1, u8.2.2.2.2.1, u8.2.2.2.2.2.1, u8.2.2.2.2.2.2.1, u8.2.2.2.2.2.2.2.1, r7, x1, z12, u8.2.2.2.2.2.2.2.2.2.2.2.1, u8.2.2.2.2.2.2.2.2.2.2.2.2.1, u8.2.2.2.2.2.2.2.2.2.2.2.2.2.1, u8.2.2.2.2.2.2.2.2.2.2.2.2.2.2.1, u8.2.2.2.2.2.2.2.2.2.2.2.2.2.2.2.1, u8.2.2.2.2.2.2.2.2.2.2.2.2.2.2.2.2)) (pc2 := 81) S gf_X9_32 pf_X9_10 0 rfl rfl rfl (Nat.le_of_ble_eq_true rfl) rfl dX9_run_78 rfl ?_
          refine v_iload_n (pc2 := 82) S 1 dX9_run_81 rfl rfl rfl ?_
          exact v_iret S ⟨x1, (u8.1, u8.2.1, u8.2.2.1, u8.2.2.2.1, u8.2.2.2.2.1, u8.2.2.2.2.2.1, u8.2.2.2.2.2.2.1, u8.2.2.2.2.2.2.2.1, r7, x1, z12, u8.2.2.2.2.2.2.2.2.2.2.2.1, u8.2.2.2.2.2.2.2.2.2.2.2.2.1, u8.2.2.2.2.2.2.2.2.2.2.2.2.2.1, u8.2.2.2.2.2.2.2.2.2.2.2.2.2.2.1, u8.2.2.2.2.2.2.2.2.2.2.2.2.2.2.2.1, u8.2.2.2.2.2.2.2.2.2.2.2.2.2.2.2.2), rfl, rfl, hw⟩ dX9_run_82
  refine v_aload_n (pc2 := 1) S 0 dX9_run_0 rfl rfl rfl ?_
  refine v_callV (pc2 := 4) (As := []) (rest := []) S (c_X9_readPad l G a0 v0 _ hw) mf_X9_readPad u_974 u_976 u_41 0 9 rfl rfl rfl rfl ⟨rfl, rfl⟩ ⟨Nat.le_of_ble_eq_true rfl, Nat.le_of_ble_eq_true rfl⟩ ⟨Nat.le_of_ble_eq_true rfl, Nat.le_of_ble_eq_true rfl⟩ (Nat.le_of_ble_eq_true rfl) dX9_run_1 (frW _) rfl (pb (fun r1 u2 br1 hw => ?_))
  refine v_to (wMod G a0 u2) 4 [(0, .ref a0.1)] _ [.int r1] rfl rfl rfl rfl ?_
  refine v_if_ne (pc2 := 7) (tgt := 10) S dX9_run_4 (by decide) rfl (fun c3 => ?_) (fun c3 => ?_)
  · have hw := hw.1 c3
    refine v_aload_n (pc2 := 11) S 0 dX9_run_10 rfl rfl rfl ?_
    refine v_callV (pc2 := 14) (As := []) (rest := []) S (c_X9_record l G a0 u2 _ hw) mf_X9_record u_826 u_828 u_19 0 9 rfl rfl rfl rfl ⟨rfl, rfl⟩ ⟨Nat.le_of_ble_eq_true rfl, Nat.le_of_ble_eq_true rfl⟩ ⟨Nat.le_of_ble_eq_true rfl, Nat.le_of_ble_eq_true rfl⟩ (Nat.le_of_ble_eq_true rfl) dX9_run_11 (frW _) rfl (pv (fun u5 hw => ?_))
    refine v_to (wMod G a0 u5) 14 [(0, .ref a0.1)] _ [] rfl rfl rfl rfl ?_
    refine v_aload_n (pc2 := 15) S 0 dX9_run_14 rfl rfl rfl ?_
    refine v_bipush (v := -4) (pc2 := 17) S dX9_run_15 (by decide) rfl ?_
    refine v_put (ws2 := wMod G a0 (u5.1, u5.2.1, u5.2.2.1, u5.2.2.2.1, u5.2.2.2.2.1, u5.2.2.2.2.2.1, u5.2.2.2.2.2.2.1, u5.2.2.2.2.2.2.2.1, (-4 : Int32), u5.2.2.2.2.2.2.2.2.2.1, u5.2.2.2.2.2.2.2.2.2.2.1, u5.2.2.2.2.2.2.2.2.2.2.2.1, u5.2.2.2.2.2.2.2.2.2.2.2.2.1, u5.2.2.2.2.2.2.2.2.2.2.2.2.2.1, u5.2.2.2.2.2.2.2.2.2.2.2.2.2.2.1, u5.2.2.2.2.2.2.2.2.2.2.2.2.2.2.2.1, u5.2.2.2.2.2.2.2.2.2.2.2.2.2.2.2.2)) (pc2 := 20) S gf_X9_25 pf_X9_8 0 rfl rfl rfl (Nat.le_of_ble_eq_true rfl) rfl dX9_run_17 rfl ?_
    refine v_aload_n (pc2 := 21) S 0 dX9_run_20 rfl rfl rfl ?_
    refine v_bipush (v := -4) (pc2 := 23) S dX9_run_21 (by decide) rfl ?_
    refine v_put (ws2 := wMod G a0 (u5.1, u5.2.1, u5.2.2.1, u5.2.2.2.1, u5.2.2.2.2.1, u5.2.2.2.2.2.1, u5.2.2.2.2.2.2.1, u5.2.2.2.2.2.2.2.1, (-4 : Int32), (-4 : Int32), u5.2.2.2.2.2.2.2.2.2.2.1, u5.2.2.2.2.2.2.2.2.2.2.2.1, u5.2.2.2.2.2.2.2.2.2.2.2.2.1, u5.2.2.2.2.2.2.2.2.2.2.2.2.2.1, u5.2.2.2.2.2.2.2.2.2.2.2.2.2.2.1, u5.2.2.2.2.2.2.2.2.2.2.2.2.2.2.2.1, u5.2.2.2.2.2.2.2.2.2.2.2.2.2.2.2.2)) (pc2 := 26) S gf_X9_29 pf_X9_9 0 rfl rfl rfl (Nat.le_of_ble_eq_true rfl) rfl dX9_run_23 rfl ?_
    refine v_aload_n (pc2 := 27) S 0 dX9_run_26 rfl rfl rfl ?_
    refine v_bipush (v := -4) (pc2 := 29) S dX9_run_27 (by decide) rfl ?_
    refine v_put (ws2 := wMod G a0 (u5.1, u5.2.1, u5.2.2.1, u5.2.2.2.1, u5.2.2.2.2.1, u5.2.2.2.2.2.1, u5.2.2.2.2.2.2.1, u5.2.2.2.2.2.2.2.1, (-4 : Int32), (-4 : Int32), (-4 : Int32), u5.2.2.2.2.2.2.2.2.2.2.2.1, u5.2.2.2.2.2.2.2.2.2.2.2.2.1, u5.2.2.2.2.2.2.2.2.2.2.2.2.2.1, u5.2.2.2.2.2.2.2.2.2.2.2.2.2.2.1, u5.2.2.2.2.2.2.2.2.2.2.2.2.2.2.2.1, u5.2.2.2.2.2.2.2.2.2.2.2.2.2.2.2.2)) (pc2 := 32) S gf_X9_32 pf_X9_10 0 rfl rfl rfl (Nat.le_of_ble_eq_true rfl) rfl dX9_run_29 rfl ?_
    refine v_aload_n (pc2 := 33) S 0 dX9_run_32 rfl rfl rfl ?_
    refine v_iconst (v := 0) (pc2 := 34) S dX9_run_33 (by decide) rfl ?_
    refine v_put (ws2 := wMod G a0 (u5.1, u5.2.1, u5.2.2.1, u5.2.2.2.1, u5.2.2.2.2.1, u5.2.2.2.2.2.1, u5.2.2.2.2.2.2.1, (0 : Int32), (-4 : Int32), (-4 : Int32), (-4 : Int32), u5.2.2.2.2.2.2.2.2.2.2.2.1, u5.2.2.2.2.2.2.2.2.2.2.2.2.1, u5.2.2.2.2.2.2.2.2.2.2.2.2.2.1, u5.2.2.2.2.2.2.2.2.2.2.2.2.2.2.1, u5.2.2.2.2.2.2.2.2.2.2.2.2.2.2.2.1, u5.2.2.2.2.2.2.2.2.2.2.2.2.2.2.2.2)) (pc2 := 37) S gf_X9_151 pf_X9_7 0 rfl rfl rfl (Nat.le_of_ble_eq_true rfl) rfl dX9_run_34 rfl ?_
    refine v_iconst (v := 0) (pc2 := 38) S dX9_run_37 (by decide) rfl ?_
    refine v_istore_n (lv2 := [(0, .ref a0.1), (1, .int (0 : Int32))]) (pc2 := 39) S dX9_run_38 rfl (by decide) [1, 0] rfl rfl ?_
    obtain ⟨kk, hw⟩ := hw
    exact L39 kk (0 : Int32) (u5.1, u5.2.1, u5.2.2.1, u5.2.2.2.1, u5.2.2.2.2.1, u5.2.2.2.2.2.1, u5.2.2.2.2.2.2.1, (0 : Int32), (-4 : Int32), (-4 : Int32), (-4 : Int32), u5.2.2.2.2.2.2.2.2.2.2.2.1, u5.2.2.2.2.2.2.2.2.2.2.2.2.1, u5.2.2.2.2.2.2.2.2.2.2.2.2.2.1, u5.2.2.2.2.2.2.2.2.2.2.2.2.2.2.1, u5.2.2.2.2.2.2.2.2.2.2.2.2.2.2.2.1, u5.2.2.2.2.2.2.2.2.2.2.2.2.2.2.2.2) hw
  · have hw := hw.2 c3
    refine v_bipush (v := -2) (pc2 := 9) S dX9_run_7 (by decide) rfl ?_
    exact v_iret S ⟨(-2 : Int32), u2, rfl, rfl, hw⟩ dX9_run_9
set_option maxHeartbeats 4000000 in
set_option maxRecDepth 100000 in
theorem c_X9_why (l : Launch) (G : GG) (a0 : ModA) (v0 : ModV) (i0 : Int32) (Q : Int32 → Prop) (hw : wp_X9_why v0 i0 Q) : Con l G yX9_why cX9_why 2 (some .int) { frames := 0, cells := 0, slots := 0, locals := 0 } [.ref a0.1, .int i0] (wMod G a0 v0) (PI (fun _ : Unit => wMod G a0 v0) (fun r _ => Q r)) 0 0 := by
  refine con_of RX9 rfl (by decide) [(0, .ref a0.1), (1, .int i0)] rfl (Nat.le_of_ble_eq_true rfl) ?_
  intro p e s m args below meth c S hname
  refine v_iload_n (pc2 := 1) S 1 dX9_why_0 rfl rfl rfl ?_
  refine v_if_ne (pc2 := 4) (tgt := 11) S dX9_why_1 (by decide) rfl (fun c1 => ?_) (fun c1 => ?_)
  · have hw := hw.1 c1
    refine v_iload_n (pc2 := 12) S 1 dX9_why_11 rfl rfl rfl ?_
    refine v_iconst (v := 1) (pc2 := 13) S dX9_why_12 (by decide) rfl ?_
    refine v_icmp_ne (pc2 := 16) (tgt := 23) S dX9_why_13 (by decide) rfl (fun c2 => ?_) (fun c2 => ?_)
    · have hw := hw.1 c2
      refine v_iload_n (pc2 := 24) S 1 dX9_why_23 rfl rfl rfl ?_
      refine v_iconst (v := 2) (pc2 := 25) S dX9_why_24 (by decide) rfl ?_
      refine v_icmp_ne (pc2 := 28) (tgt := 35) S dX9_why_25 (by decide) rfl (fun c3 => ?_) (fun c3 => ?_)
      · have hw := hw.1 c3
        refine v_iconst (v := -1) (pc2 := 36) S dX9_why_35 (by decide) rfl ?_
        exact v_iret S ⟨(-1 : Int32), (), rfl, rfl, hw⟩ dX9_why_36
      · have hw := hw.2 c3
        refine v_aload_n (pc2 := 29) S 0 dX9_why_28 rfl rfl rfl ?_
        refine v_get (v := .int v0.2.2.2.2.2.2.2.2.2.2.1) (pc2 := 32) S gf_X9_32 0 rfl rfl dX9_why_29 rfl ?_
        refine v_goto (tgt := 36) S dX9_why_32 (by decide) ?_
        exact v_iret S ⟨v0.2.2.2.2.2.2.2.2.2.2.1, (), rfl, rfl, hw⟩ dX9_why_36
    · have hw := hw.2 c2
      refine v_aload_n (pc2 := 17) S 0 dX9_why_16 rfl rfl rfl ?_
      refine v_get (v := .int v0.2.2.2.2.2.2.2.2.2.1) (pc2 := 20) S gf_X9_29 0 rfl rfl dX9_why_17 rfl ?_
      refine v_goto (tgt := 36) S dX9_why_20 (by decide) ?_
      exact v_iret S ⟨v0.2.2.2.2.2.2.2.2.2.1, (), rfl, rfl, hw⟩ dX9_why_36
  · have hw := hw.2 c1
    refine v_aload_n (pc2 := 5) S 0 dX9_why_4 rfl rfl rfl ?_
    refine v_get (v := .int v0.2.2.2.2.2.2.2.2.1) (pc2 := 8) S gf_X9_25 0 rfl rfl dX9_why_5 rfl ?_
    refine v_goto (tgt := 36) S dX9_why_8 (by decide) ?_
    exact v_iret S ⟨v0.2.2.2.2.2.2.2.2.1, (), rfl, rfl, hw⟩ dX9_why_36
set_option maxHeartbeats 4000000 in
set_option maxRecDepth 100000 in
theorem c_X9_door (l : Launch) (G : GG) (a0 : ModA) (v0 : ModV) (i0 : Int32) (i1 : Int32) (Q : Int32 → Prop) (hw : wp_X9_door v0 i0 i1 Q) : Con l G yX9_door cX9_door 3 (some .int) { frames := 3, cells := 0, slots := 0, locals := 68 } [.ref a0.1, .int i0, .int i1] (wMod G a0 v0) (PI (fun _ : Unit => wMod G a0 v0) (fun r _ => Q r)) 0 0 := by
  refine con_of RX9 rfl (by decide) [(0, .ref a0.1), (1, .int i0), (2, .int i1)] rfl (Nat.le_of_ble_eq_true rfl) ?_
  intro p e s m args below meth c S hname
  refine v_iload_n (pc2 := 1) S 1 dX9_door_0 rfl rfl rfl ?_
  refine v_callS (pc2 := 4) (As := [.int i0]) (rest := []) S (c_X9_isDoor l G i0 _ hw) mf_X9_isDoor u_834 u_835 rfl rfl ⟨rfl, rfl⟩ ⟨Nat.le_of_ble_eq_true rfl, Nat.le_of_ble_eq_true rfl⟩ ⟨Nat.le_of_ble_eq_true rfl, Nat.le_of_ble_eq_true rfl⟩ (Nat.le_of_ble_eq_true rfl) dX9_door_1 (frM [] [] _) rfl (pb (fun r1 u2 br1 hw => ?_))
  refine v_to (wMod G a0 v0) 4 [(0, .ref a0.1), (1, .int i0), (2, .int i1)] _ [.int r1] rfl rfl rfl rfl ?_
  refine v_if_ne (pc2 := 7) (tgt := 9) S dX9_door_4 (by decide) rfl (fun c3 => ?_) (fun c3 => ?_)
  · have hw := hw.1 c3
    refine v_iload_n (pc2 := 10) S 2 dX9_door_9 rfl rfl rfl ?_
    by_cases c4 : i1 = (0 : Int32)
    · have hw := hw.1 c4
      refine v_tableIn (off := 54) (tgt := 64) S dX9_door_10 (by rw [c4]; decide) (by rw [c4]; decide) (by rw [c4]; rfl) (by decide) ?_
      refine v_aload_n (pc2 := 65) S 0 dX9_door_64 rfl rfl rfl ?_
      refine v_iload_n (pc2 := 66) S 1 dX9_door_65 rfl rfl rfl ?_
      refine v_iconst (v := 0) (pc2 := 67) S dX9_door_66 (by decide) rfl ?_
      refine v_callV (pc2 := 70) (As := [.int i0, .int (0 : Int32)]) (rest := []) S (c_X9_of l G a0 v0 i0 (0 : Int32) _ hw) mf_X9_of u_818 u_820 u_18 0 9 rfl rfl rfl rfl ⟨rfl, rfl⟩ ⟨Nat.le_of_ble_eq_true rfl, Nat.le_of_ble_eq_true rfl⟩ ⟨Nat.le_of_ble_eq_true rfl, Nat.le_of_ble_eq_true rfl⟩ (Nat.le_of_ble_eq_true rfl) dX9_door_67 (frW _) rfl (pi (fun r5 u6 hw => ?_))
      refine v_to (wMod G a0 v0) 70 [(0, .ref a0.1), (1, .int i0), (2, .int i1)] _ [.int r5] rfl rfl rfl rfl ?_
      exact v_iret S ⟨r5, (), rfl, rfl, hw⟩ dX9_door_70
    · have hw := hw.2
      by_cases c7 : i1 = (1 : Int32)
      · have hw := hw.1 c7
        refine v_tableIn (off := 61) (tgt := 71) S dX9_door_10 (by rw [c7]; decide) (by rw [c7]; decide) (by rw [c7]; rfl) (by decide) ?_
        refine v_aload_n (pc2 := 72) S 0 dX9_door_71 rfl rfl rfl ?_
        refine v_iload_n (pc2 := 73) S 1 dX9_door_72 rfl rfl rfl ?_
        refine v_callV (pc2 := 76) (As := [.int i0]) (rest := []) S (c_X9_lesserHall l G a0 v0 i0 _ hw) mf_X9_lesserHall u_946 u_948 u_39 0 9 rfl rfl rfl rfl ⟨rfl, rfl⟩ ⟨Nat.le_of_ble_eq_true rfl, Nat.le_of_ble_eq_true rfl⟩ ⟨Nat.le_of_ble_eq_true rfl, Nat.le_of_ble_eq_true rfl⟩ (Nat.le_of_ble_eq_true rfl) dX9_door_73 (frW _) rfl (pi (fun r8 u9 hw => ?_))
        refine v_to (wMod G a0 v0) 76 [(0, .ref a0.1), (1, .int i0), (2, .int i1)] _ [.int r8] rfl rfl rfl rfl ?_
        exact v_iret S ⟨r8, (), rfl, rfl, hw⟩ dX9_door_76
      · have hw := hw.2
        by_cases c10 : i1 = (2 : Int32)
        · have hw := hw.1 c10
          refine v_tableIn (off := 67) (tgt := 77) S dX9_door_10 (by rw [c10]; decide) (by rw [c10]; decide) (by rw [c10]; rfl) (by decide) ?_
          refine v_aload_n (pc2 := 78) S 0 dX9_door_77 rfl rfl rfl ?_
          refine v_iload_n (pc2 := 79) S 1 dX9_door_78 rfl rfl rfl ?_
          refine v_callV (pc2 := 82) (As := [.int i0]) (rest := []) S (c_X9_greaterHall l G a0 v0 i0 _ hw) mf_X9_greaterHall u_950 u_952 u_40 0 9 rfl rfl rfl rfl ⟨rfl, rfl⟩ ⟨Nat.le_of_ble_eq_true rfl, Nat.le_of_ble_eq_true rfl⟩ ⟨Nat.le_of_ble_eq_true rfl, Nat.le_of_ble_eq_true rfl⟩ (Nat.le_of_ble_eq_true rfl) dX9_door_79 (frW _) rfl (pi (fun r11 u12 hw => ?_))
          refine v_to (wMod G a0 v0) 82 [(0, .ref a0.1), (1, .int i0), (2, .int i1)] _ [.int r11] rfl rfl rfl rfl ?_
          exact v_iret S ⟨r11, (), rfl, rfl, hw⟩ dX9_door_82
        · have hw := hw.2
          by_cases c13 : i1 = (3 : Int32)
          · have hw := hw.1 c13
            refine v_tableIn (off := 73) (tgt := 83) S dX9_door_10 (by rw [c13]; decide) (by rw [c13]; decide) (by rw [c13]; rfl) (by decide) ?_
            refine v_aload_n (pc2 := 84) S 0 dX9_door_83 rfl rfl rfl ?_
            refine v_iload_n (pc2 := 85) S 1 dX9_door_84 rfl rfl rfl ?_
            refine v_iconst (v := 3) (pc2 := 86) S dX9_door_85 (by decide) rfl ?_
            refine v_callV (pc2 := 89) (As := [.int i0, .int (3 : Int32)]) (rest := []) S (c_X9_of l G a0 v0 i0 (3 : Int32) _ hw) mf_X9_of u_818 u_820 u_18 0 9 rfl rfl rfl rfl ⟨rfl, rfl⟩ ⟨Nat.le_of_ble_eq_true rfl, Nat.le_of_ble_eq_true rfl⟩ ⟨Nat.le_of_ble_eq_true rfl, Nat.le_of_ble_eq_true rfl⟩ (Nat.le_of_ble_eq_true rfl) dX9_door_86 (frW _) rfl (pi (fun r14 u15 hw => ?_))
            refine v_to (wMod G a0 v0) 89 [(0, .ref a0.1), (1, .int i0), (2, .int i1)] _ [.int r14] rfl rfl rfl rfl ?_
            exact v_iret S ⟨r14, (), rfl, rfl, hw⟩ dX9_door_89
          · have hw := hw.2
            by_cases c16 : i1 = (4 : Int32)
            · have hw := hw.1 c16
              refine v_tableIn (off := 80) (tgt := 90) S dX9_door_10 (by rw [c16]; decide) (by rw [c16]; decide) (by rw [c16]; rfl) (by decide) ?_
              refine v_aload_n (pc2 := 91) S 0 dX9_door_90 rfl rfl rfl ?_
              refine v_iload_n (pc2 := 92) S 1 dX9_door_91 rfl rfl rfl ?_
              refine v_iconst (v := 4) (pc2 := 93) S dX9_door_92 (by decide) rfl ?_
              refine v_callV (pc2 := 96) (As := [.int i0, .int (4 : Int32)]) (rest := []) S (c_X9_of l G a0 v0 i0 (4 : Int32) _ hw) mf_X9_of u_818 u_820 u_18 0 9 rfl rfl rfl rfl ⟨rfl, rfl⟩ ⟨Nat.le_of_ble_eq_true rfl, Nat.le_of_ble_eq_true rfl⟩ ⟨Nat.le_of_ble_eq_true rfl, Nat.le_of_ble_eq_true rfl⟩ (Nat.le_of_ble_eq_true rfl) dX9_door_93 (frW _) rfl (pi (fun r17 u18 hw => ?_))
              refine v_to (wMod G a0 v0) 96 [(0, .ref a0.1), (1, .int i0), (2, .int i1)] _ [.int r17] rfl rfl rfl rfl ?_
              exact v_iret S ⟨r17, (), rfl, rfl, hw⟩ dX9_door_96
            · have hw := hw.2
              by_cases c19 : i1 = (5 : Int32)
              · have hw := hw.1 c19
                refine v_tableIn (off := 87) (tgt := 97) S dX9_door_10 (by rw [c19]; decide) (by rw [c19]; decide) (by rw [c19]; rfl) (by decide) ?_
                refine v_aload_n (pc2 := 98) S 0 dX9_door_97 rfl rfl rfl ?_
                refine v_iload_n (pc2 := 99) S 1 dX9_door_98 rfl rfl rfl ?_
                refine v_iconst (v := 1) (pc2 := 100) S dX9_door_99 (by decide) rfl ?_
                refine v_callV (pc2 := 103) (As := [.int i0, .int (1 : Int32)]) (rest := []) S (c_X9_cordsTo l G a0 v0 i0 (1 : Int32) _ hw) mf_X9_cordsTo u_852 u_854 u_23 0 9 rfl rfl rfl rfl ⟨rfl, rfl⟩ ⟨Nat.le_of_ble_eq_true rfl, Nat.le_of_ble_eq_true rfl⟩ ⟨Nat.le_of_ble_eq_true rfl, Nat.le_of_ble_eq_true rfl⟩ (Nat.le_of_ble_eq_true rfl) dX9_door_100 (frW _) rfl (pi (fun r20 u21 hw => ?_))
                refine v_to (wMod G a0 v0) 103 [(0, .ref a0.1), (1, .int i0), (2, .int i1)] _ [.int r20] rfl rfl rfl rfl ?_
                refine v_if_le (pc2 := 106) (tgt := 110) S dX9_door_103 (by decide) rfl (fun c22 => ?_) (fun c22 => ?_)
                · have hw := hw.1 c22
                  refine v_iconst (v := 0) (pc2 := 111) S dX9_door_110 (by decide) rfl ?_
                  exact v_iret S ⟨(0 : Int32), (), rfl, rfl, hw⟩ dX9_door_111
                · have hw := hw.2 c22
                  refine v_iconst (v := 1) (pc2 := 107) S dX9_door_106 (by decide) rfl ?_
                  refine v_goto (tgt := 111) S dX9_door_107 (by decide) ?_
                  exact v_iret S ⟨(1 : Int32), (), rfl, rfl, hw⟩ dX9_door_111
              · have hw := hw.2
                by_cases c23 : i1 = (6 : Int32)
                · have hw := hw.1 c23
                  refine v_tableIn (off := 102) (tgt := 112) S dX9_door_10 (by rw [c23]; decide) (by rw [c23]; decide) (by rw [c23]; rfl) (by decide) ?_
                  refine v_aload_n (pc2 := 113) S 0 dX9_door_112 rfl rfl rfl ?_
                  refine v_iload_n (pc2 := 114) S 1 dX9_door_113 rfl rfl rfl ?_
                  refine v_iload_n (pc2 := 115) S 2 dX9_door_114 rfl rfl rfl ?_
                  refine v_bipush (v := 7) (pc2 := 117) S dX9_door_115 (by decide) rfl ?_
                  refine v_icmp_ne (pc2 := 120) (tgt := 124) S dX9_door_117 (by decide) rfl (fun c24 => ?_) (fun c24 => ?_)
                  · have hw := hw.1 c24
                    refine v_iconst (v := 0) (pc2 := 125) S dX9_door_124 (by decide) rfl ?_
                    refine v_callV (pc2 := 128) (As := [.int i0, .int (0 : Int32)]) (rest := []) S (c_X9_cordsTo l G a0 v0 i0 (0 : Int32) _ hw) mf_X9_cordsTo u_852 u_854 u_23 0 9 rfl rfl rfl rfl ⟨rfl, rfl⟩ ⟨Nat.le_of_ble_eq_true rfl, Nat.le_of_ble_eq_true rfl⟩ ⟨Nat.le_of_ble_eq_true rfl, Nat.le_of_ble_eq_true rfl⟩ (Nat.le_of_ble_eq_true rfl) dX9_door_125 (frW _) rfl (pi (fun r25 u26 hw => ?_))
                    refine v_to (wMod G a0 v0) 128 [(0, .ref a0.1), (1, .int i0), (2, .int i1)] _ [.int r25] rfl rfl rfl rfl ?_
                    exact v_iret S ⟨r25, (), rfl, rfl, hw⟩ dX9_door_128
                  · have hw := hw.2 c24
                    refine v_iconst (v := 1) (pc2 := 121) S dX9_door_120 (by decide) rfl ?_
                    refine v_goto (tgt := 125) S dX9_door_121 (by decide) ?_
                    refine v_callV (pc2 := 128) (As := [.int i0, .int (1 : Int32)]) (rest := []) S (c_X9_cordsTo l G a0 v0 i0 (1 : Int32) _ hw) mf_X9_cordsTo u_852 u_854 u_23 0 9 rfl rfl rfl rfl ⟨rfl, rfl⟩ ⟨Nat.le_of_ble_eq_true rfl, Nat.le_of_ble_eq_true rfl⟩ ⟨Nat.le_of_ble_eq_true rfl, Nat.le_of_ble_eq_true rfl⟩ (Nat.le_of_ble_eq_true rfl) dX9_door_125 (frW _) rfl (pi (fun r27 u28 hw => ?_))
                    refine v_to (wMod G a0 v0) 128 [(0, .ref a0.1), (1, .int i0), (2, .int i1)] _ [.int r27] rfl rfl rfl rfl ?_
                    exact v_iret S ⟨r27, (), rfl, rfl, hw⟩ dX9_door_128
                · have hw := hw.2
                  by_cases c29 : i1 = (7 : Int32)
                  · have hw := hw.1 c29
                    refine v_tableIn (off := 102) (tgt := 112) S dX9_door_10 (by rw [c29]; decide) (by rw [c29]; decide) (by rw [c29]; rfl) (by decide) ?_
                    refine v_aload_n (pc2 := 113) S 0 dX9_door_112 rfl rfl rfl ?_
                    refine v_iload_n (pc2 := 114) S 1 dX9_door_113 rfl rfl rfl ?_
                    refine v_iload_n (pc2 := 115) S 2 dX9_door_114 rfl rfl rfl ?_
                    refine v_bipush (v := 7) (pc2 := 117) S dX9_door_115 (by decide) rfl ?_
                    refine v_icmp_ne (pc2 := 120) (tgt := 124) S dX9_door_117 (by decide) rfl (fun c30 => ?_) (fun c30 => ?_)
                    · have hw := hw.1 c30
                      refine v_iconst (v := 0) (pc2 := 125) S dX9_door_124 (by decide) rfl ?_
                      refine v_callV (pc2 := 128) (As := [.int i0, .int (0 : Int32)]) (rest := []) S (c_X9_cordsTo l G a0 v0 i0 (0 : Int32) _ hw) mf_X9_cordsTo u_852 u_854 u_23 0 9 rfl rfl rfl rfl ⟨rfl, rfl⟩ ⟨Nat.le_of_ble_eq_true rfl, Nat.le_of_ble_eq_true rfl⟩ ⟨Nat.le_of_ble_eq_true rfl, Nat.le_of_ble_eq_true rfl⟩ (Nat.le_of_ble_eq_true rfl) dX9_door_125 (frW _) rfl (pi (fun r31 u32 hw => ?_))
                      refine v_to (wMod G a0 v0) 128 [(0, .ref a0.1), (1, .int i0), (2, .int i1)] _ [.int r31] rfl rfl rfl rfl ?_
                      exact v_iret S ⟨r31, (), rfl, rfl, hw⟩ dX9_door_128
                    · have hw := hw.2 c30
                      refine v_iconst (v := 1) (pc2 := 121) S dX9_door_120 (by decide) rfl ?_
                      refine v_goto (tgt := 125) S dX9_door_121 (by decide) ?_
                      refine v_callV (pc2 := 128) (As := [.int i0, .int (1 : Int32)]) (rest := []) S (c_X9_cordsTo l G a0 v0 i0 (1 : Int32) _ hw) mf_X9_cordsTo u_852 u_854 u_23 0 9 rfl rfl rfl rfl ⟨rfl, rfl⟩ ⟨Nat.le_of_ble_eq_true rfl, Nat.le_of_ble_eq_true rfl⟩ ⟨Nat.le_of_ble_eq_true rfl, Nat.le_of_ble_eq_true rfl⟩ (Nat.le_of_ble_eq_true rfl) dX9_door_125 (frW _) rfl (pi (fun r33 u34 hw => ?_))
                      refine v_to (wMod G a0 v0) 128 [(0, .ref a0.1), (1, .int i0), (2, .int i1)] _ [.int r33] rfl rfl rfl rfl ?_
                      exact v_iret S ⟨r33, (), rfl, rfl, hw⟩ dX9_door_128
                  · have hw := hw.2
                    by_cases c35 : i1 = (8 : Int32)
                    · have hw := hw.1 c35
                      refine v_tableIn (off := 119) (tgt := 129) S dX9_door_10 (by rw [c35]; decide) (by rw [c35]; decide) (by rw [c35]; rfl) (by decide) ?_
                      refine v_aload_n (pc2 := 130) S 0 dX9_door_129 rfl rfl rfl ?_
                      refine v_iload_n (pc2 := 131) S 1 dX9_door_130 rfl rfl rfl ?_
                      refine v_iconst (v := 5) (pc2 := 132) S dX9_door_131 (by decide) rfl ?_
                      refine v_callV (pc2 := 135) (As := [.int i0, .int (5 : Int32)]) (rest := []) S (c_X9_of l G a0 v0 i0 (5 : Int32) _ hw) mf_X9_of u_818 u_820 u_18 0 9 rfl rfl rfl rfl ⟨rfl, rfl⟩ ⟨Nat.le_of_ble_eq_true rfl, Nat.le_of_ble_eq_true rfl⟩ ⟨Nat.le_of_ble_eq_true rfl, Nat.le_of_ble_eq_true rfl⟩ (Nat.le_of_ble_eq_true rfl) dX9_door_132 (frW _) rfl (pi (fun r36 u37 hw => ?_))
                      refine v_to (wMod G a0 v0) 135 [(0, .ref a0.1), (1, .int i0), (2, .int i1)] _ [.int r36] rfl rfl rfl rfl ?_
                      exact v_iret S ⟨r36, (), rfl, rfl, hw⟩ dX9_door_135
                    · have hw := hw.2
                      by_cases c38 : i1 = (9 : Int32)
                      · have hw := hw.1 c38
                        refine v_tableIn (off := 126) (tgt := 136) S dX9_door_10 (by rw [c38]; decide) (by rw [c38]; decide) (by rw [c38]; rfl) (by decide) ?_
                        refine v_aload_n (pc2 := 137) S 0 dX9_door_136 rfl rfl rfl ?_
                        refine v_iload_n (pc2 := 138) S 1 dX9_door_137 rfl rfl rfl ?_
                        refine v_bipush (v := 6) (pc2 := 140) S dX9_door_138 (by decide) rfl ?_
                        refine v_callV (pc2 := 143) (As := [.int i0, .int (6 : Int32)]) (rest := []) S (c_X9_of l G a0 v0 i0 (6 : Int32) _ hw) mf_X9_of u_818 u_820 u_18 0 9 rfl rfl rfl rfl ⟨rfl, rfl⟩ ⟨Nat.le_of_ble_eq_true rfl, Nat.le_of_ble_eq_true rfl⟩ ⟨Nat.le_of_ble_eq_true rfl, Nat.le_of_ble_eq_true rfl⟩ (Nat.le_of_ble_eq_true rfl) dX9_door_140 (frW _) rfl (pi (fun r39 u40 hw => ?_))
                        refine v_to (wMod G a0 v0) 143 [(0, .ref a0.1), (1, .int i0), (2, .int i1)] _ [.int r39] rfl rfl rfl rfl ?_
                        exact v_iret S ⟨r39, (), rfl, rfl, hw⟩ dX9_door_143
                      · have hw := hw.2
                        have hw := hw c4 c7 c10 c13 c16 c19 c23 c29 c35 c38
                        refine v_tableOut (tgt := 144) S dX9_door_10 (sw_out9 c4 c7 c10 c13 c16 c19 c23 c29 c35 c38) (by decide) ?_
                        refine v_iconst (v := -1) (pc2 := 145) S dX9_door_144 (by decide) rfl ?_
                        exact v_iret S ⟨(-1 : Int32), (), rfl, rfl, hw⟩ dX9_door_145
  · have hw := hw.2 c3
    refine v_iconst (v := -1) (pc2 := 8) S dX9_door_7 (by decide) rfl ?_
    exact v_iret S ⟨(-1 : Int32), (), rfl, rfl, hw⟩ dX9_door_8
set_option maxHeartbeats 4000000 in
set_option maxRecDepth 100000 in
theorem c_X9_doorsOf (l : Launch) (G : GG) (a0 : ModA) (v0 : ModV) (i0 : Int32) (Q : Int32 → Prop) (hw : wp_X9_doorsOf v0 i0 Q) : Con l G yX9_doorsOf cX9_doorsOf 4 (some .int) { frames := 2, cells := 0, slots := 0, locals := 44 } [.ref a0.1, .int i0] (wMod G a0 v0) (PI (fun _ : Unit => wMod G a0 v0) (fun r _ => Q r)) 0 0 := by
  refine con_of RX9 rfl (by decide) [(0, .ref a0.1), (1, .int i0)] rfl (Nat.le_of_ble_eq_true rfl) ?_
  intro p e s m args below meth c S hname
  have L4 : ∀ (x1 : Int32) (kk : Nat) (x2 : Int32) (x3 : Int32), wp_X9_doorsOf_L4 v0 x1 Q kk x2 x3 → V p l e { frames := 2, cells := 0, slots := 0, locals := 44 } s m args below meth c G (va_A (wMod G a0 v0) s.heap.size) 4 0 0 (MQ below (EQ G (wMod G a0 v0) s.heap.size (PI (fun _ : Unit => wMod G a0 v0) (fun r _ => Q r))) args s 0 0 (va_A (wMod G a0 v0) s.heap.size)) (wMod G a0 v0) 4 [(0, .ref a0.1), (1, .int x1), (2, .int x2), (3, .int x3)] [] := by
    intro x1 kk
    induction kk with
    | zero => intro x2 x3 hw; exact hw.elim
    | succ n ih =>
      intro x2 x3 hw
      refine v_iload_n (pc2 := 5) S 3 dX9_doorsOf_4 rfl rfl rfl ?_
      refine v_bipush (v := 10) (pc2 := 7) S dX9_doorsOf_5 (by decide) rfl ?_
      refine v_icmp_ge (pc2 := 10) (tgt := 33) S dX9_doorsOf_7 (by decide) rfl (fun c1 => ?_) (fun c1 => ?_)
      · have hw := hw.1 c1
        refine v_iload_n (pc2 := 34) S 2 dX9_doorsOf_33 rfl rfl rfl ?_
        exact v_iret S ⟨x2, (), rfl, rfl, hw⟩ dX9_doorsOf_34
      · have hw := hw.2 c1
        refine v_iload_n (pc2 := 11) S 2 dX9_doorsOf_10 rfl rfl rfl ?_
        refine v_aload_n (pc2 := 12) S 0 dX9_doorsOf_11 rfl rfl rfl ?_
        refine v_iload_n (pc2 := 13) S 3 dX9_doorsOf_12 rfl rfl rfl ?_
        refine v_iload_n (pc2 := 14) S 1 dX9_doorsOf_13 rfl rfl rfl ?_
        refine v_callV (pc2 := 17) (As := [.int x3, .int x1]) (rest := [.int x2]) S (c_X9_joins l G a0 v0 x3 x1 _ hw) mf_X9_joins u_876 u_878 u_29 0 9 rfl rfl rfl rfl ⟨rfl, rfl⟩ ⟨Nat.le_of_ble_eq_true rfl, Nat.le_of_ble_eq_true rfl⟩ ⟨Nat.le_of_ble_eq_true rfl, Nat.le_of_ble_eq_true rfl⟩ (Nat.le_of_ble_eq_true rfl) dX9_doorsOf_14 (frW _) rfl (pb (fun r2 u3 br2 hw => ?_))
        refine v_to (wMod G a0 v0) 17 [(0, .ref a0.1), (1, .int x1), (2, .int x2), (3, .int x3)] _ [.int r2, .int x2] rfl rfl rfl rfl ?_
        refine v_if_eq (pc2 := 20) (tgt := 24) S dX9_doorsOf_17 (by decide) rfl (fun c4 => ?_) (fun c4 => ?_)
        · have hw := hw.1 c4
          refine v_iconst (v := 0) (pc2 := 25) S dX9_doorsOf_24 (by decide) rfl ?_
          refine v_iadd (pc2 := 26) S dX9_doorsOf_25 rfl ?_
          refine v_nm (fun z5 ez5 => ?_)
          have hw := hw z5 ez5
          refine v_istore_n (lv2 := [(0, .ref a0.1), (1, .int x1), (2, .int z5), (3, .int x3)]) (pc2 := 27) S dX9_doorsOf_26 rfl (by decide) [1, 2, 0, 3] rfl rfl ?_
          obtain ⟨z6, ez6⟩ : ∃ y : Int32, y = x3 + (1 : Int32) := ⟨_, rfl⟩
          have hw := hw z6 ez6
          refine v_iinc (v := z6) (lv2 := [(0, .ref a0.1), (1, .int x1), (2, .int z5), (3, .int z6)]) (pc2 := 30) S 3 dX9_doorsOf_27 rfl (by rw [ez6]; rfl) (by decide) [1, 2, 3, 0] rfl rfl ?_
          refine v_goto (tgt := 4) S dX9_doorsOf_30 (by decide) ?_
          exact ih z5 z6 hw
        · have hw := hw.2 c4
          refine v_iconst (v := 1) (pc2 := 21) S dX9_doorsOf_20 (by decide) rfl ?_
          refine v_goto (tgt := 25) S dX9_doorsOf_21 (by decide) ?_
          refine v_iadd (pc2 := 26) S dX9_doorsOf_25 rfl ?_
          refine v_nm (fun z7 ez7 => ?_)
          have hw := hw z7 ez7
          refine v_istore_n (lv2 := [(0, .ref a0.1), (1, .int x1), (2, .int z7), (3, .int x3)]) (pc2 := 27) S dX9_doorsOf_26 rfl (by decide) [1, 2, 0, 3] rfl rfl ?_
          obtain ⟨z8, ez8⟩ : ∃ y : Int32, y = x3 + (1 : Int32) := ⟨_, rfl⟩
          have hw := hw z8 ez8
          refine v_iinc (v := z8) (lv2 := [(0, .ref a0.1), (1, .int x1), (2, .int z7), (3, .int z8)]) (pc2 := 30) S 3 dX9_doorsOf_27 rfl (by rw [ez8]; rfl) (by decide) [1, 2, 3, 0] rfl rfl ?_
          refine v_goto (tgt := 4) S dX9_doorsOf_30 (by decide) ?_
          exact ih z7 z8 hw
  refine v_iconst (v := 0) (pc2 := 1) S dX9_doorsOf_0 (by decide) rfl ?_
  refine v_istore_n (lv2 := [(0, .ref a0.1), (1, .int i0), (2, .int (0 : Int32))]) (pc2 := 2) S dX9_doorsOf_1 rfl (by decide) [1, 2, 0] rfl rfl ?_
  refine v_iconst (v := 0) (pc2 := 3) S dX9_doorsOf_2 (by decide) rfl ?_
  refine v_istore_n (lv2 := [(0, .ref a0.1), (1, .int i0), (2, .int (0 : Int32)), (3, .int (0 : Int32))]) (pc2 := 4) S dX9_doorsOf_3 rfl (by decide) [1, 2, 3, 0] rfl rfl ?_
  obtain ⟨kk, hw⟩ := hw
  exact L4 i0 kk (0 : Int32) (0 : Int32) hw
set_option maxHeartbeats 4000000 in
set_option maxRecDepth 100000 in
theorem c_X9_guestsIn (l : Launch) (G : GG) (a0 : ModA) (v0 : ModV) (i0 : Int32) (Q : Int32 → Prop) (hw : wp_X9_guestsIn v0 i0 Q) : Con l G yX9_guestsIn cX9_guestsIn 4 (some .int) { frames := 1, cells := 0, slots := 0, locals := 22 } [.ref a0.1, .int i0] (wMod G a0 v0) (PI (fun _ : Unit => wMod G a0 v0) (fun r _ => Q r)) 0 0 := by
  refine con_of RX9 rfl (by decide) [(0, .ref a0.1), (1, .int i0)] rfl (Nat.le_of_ble_eq_true rfl) ?_
  intro p e s m args below meth c S hname
  have L4 : ∀ (x1 : Int32) (kk : Nat) (x2 : Int32) (x3 : Int32), wp_X9_guestsIn_L4 v0 x1 Q kk x2 x3 → V p l e { frames := 1, cells := 0, slots := 0, locals := 22 } s m args below meth c G (va_A (wMod G a0 v0) s.heap.size) 4 0 0 (MQ below (EQ G (wMod G a0 v0) s.heap.size (PI (fun _ : Unit => wMod G a0 v0) (fun r _ => Q r))) args s 0 0 (va_A (wMod G a0 v0) s.heap.size)) (wMod G a0 v0) 4 [(0, .ref a0.1), (1, .int x1), (2, .int x2), (3, .int x3)] [] := by
    intro x1 kk
    induction kk with
    | zero => intro x2 x3 hw; exact hw.elim
    | succ n ih =>
      intro x2 x3 hw
      refine v_iload_n (pc2 := 5) S 3 dX9_guestsIn_4 rfl rfl rfl ?_
      refine v_iconst (v := 3) (pc2 := 6) S dX9_guestsIn_5 (by decide) rfl ?_
      refine v_icmp_ge (pc2 := 9) (tgt := 33) S dX9_guestsIn_6 (by decide) rfl (fun c1 => ?_) (fun c1 => ?_)
      · have hw := hw.1 c1
        refine v_iload_n (pc2 := 34) S 2 dX9_guestsIn_33 rfl rfl rfl ?_
        exact v_iret S ⟨x2, (), rfl, rfl, hw⟩ dX9_guestsIn_34
      · have hw := hw.2 c1
        refine v_iload_n (pc2 := 10) S 2 dX9_guestsIn_9 rfl rfl rfl ?_
        refine v_aload_n (pc2 := 11) S 0 dX9_guestsIn_10 rfl rfl rfl ?_
        refine v_iload_n (pc2 := 12) S 3 dX9_guestsIn_11 rfl rfl rfl ?_
        refine v_iconst (v := 0) (pc2 := 13) S dX9_guestsIn_12 (by decide) rfl ?_
        refine v_callV (pc2 := 16) (As := [.int x3, .int (0 : Int32)]) (rest := [.int x2]) S (c_X9_ofGuest l G a0 v0 x3 (0 : Int32) _ hw) mf_X9_ofGuest u_907 u_909 u_34 0 9 rfl rfl rfl rfl ⟨rfl, rfl⟩ ⟨Nat.le_of_ble_eq_true rfl, Nat.le_of_ble_eq_true rfl⟩ ⟨Nat.le_of_ble_eq_true rfl, Nat.le_of_ble_eq_true rfl⟩ (Nat.le_of_ble_eq_true rfl) dX9_guestsIn_13 (frW _) rfl (pi (fun r2 u3 hw => ?_))
        refine v_to (wMod G a0 v0) 16 [(0, .ref a0.1), (1, .int x1), (2, .int x2), (3, .int x3)] _ [.int r2, .int x2] rfl rfl rfl rfl ?_
        refine v_iload_n (pc2 := 17) S 1 dX9_guestsIn_16 rfl rfl rfl ?_
        refine v_icmp_ne (pc2 := 20) (tgt := 24) S dX9_guestsIn_17 (by decide) rfl (fun c4 => ?_) (fun c4 => ?_)
        · have hw := hw.1 c4
          refine v_iconst (v := 0) (pc2 := 25) S dX9_guestsIn_24 (by decide) rfl ?_
          refine v_iadd (pc2 := 26) S dX9_guestsIn_25 rfl ?_
          refine v_nm (fun z5 ez5 => ?_)
          have hw := hw z5 ez5
          refine v_istore_n (lv2 := [(0, .ref a0.1), (1, .int x1), (2, .int z5), (3, .int x3)]) (pc2 := 27) S dX9_guestsIn_26 rfl (by decide) [1, 2, 0, 3] rfl rfl ?_
          obtain ⟨z6, ez6⟩ : ∃ y : Int32, y = x3 + (1 : Int32) := ⟨_, rfl⟩
          have hw := hw z6 ez6
          refine v_iinc (v := z6) (lv2 := [(0, .ref a0.1), (1, .int x1), (2, .int z5), (3, .int z6)]) (pc2 := 30) S 3 dX9_guestsIn_27 rfl (by rw [ez6]; rfl) (by decide) [1, 2, 3, 0] rfl rfl ?_
          refine v_goto (tgt := 4) S dX9_guestsIn_30 (by decide) ?_
          exact ih z5 z6 hw
        · have hw := hw.2 c4
          refine v_iconst (v := 1) (pc2 := 21) S dX9_guestsIn_20 (by decide) rfl ?_
          refine v_goto (tgt := 25) S dX9_guestsIn_21 (by decide) ?_
          refine v_iadd (pc2 := 26) S dX9_guestsIn_25 rfl ?_
          refine v_nm (fun z7 ez7 => ?_)
          have hw := hw z7 ez7
          refine v_istore_n (lv2 := [(0, .ref a0.1), (1, .int x1), (2, .int z7), (3, .int x3)]) (pc2 := 27) S dX9_guestsIn_26 rfl (by decide) [1, 2, 0, 3] rfl rfl ?_
          obtain ⟨z8, ez8⟩ : ∃ y : Int32, y = x3 + (1 : Int32) := ⟨_, rfl⟩
          have hw := hw z8 ez8
          refine v_iinc (v := z8) (lv2 := [(0, .ref a0.1), (1, .int x1), (2, .int z7), (3, .int z8)]) (pc2 := 30) S 3 dX9_guestsIn_27 rfl (by rw [ez8]; rfl) (by decide) [1, 2, 3, 0] rfl rfl ?_
          refine v_goto (tgt := 4) S dX9_guestsIn_30 (by decide) ?_
          exact ih z7 z8 hw
  refine v_iconst (v := 0) (pc2 := 1) S dX9_guestsIn_0 (by decide) rfl ?_
  refine v_istore_n (lv2 := [(0, .ref a0.1), (1, .int i0), (2, .int (0 : Int32))]) (pc2 := 2) S dX9_guestsIn_1 rfl (by decide) [1, 2, 0] rfl rfl ?_
  refine v_iconst (v := 0) (pc2 := 3) S dX9_guestsIn_2 (by decide) rfl ?_
  refine v_istore_n (lv2 := [(0, .ref a0.1), (1, .int i0), (2, .int (0 : Int32)), (3, .int (0 : Int32))]) (pc2 := 4) S dX9_guestsIn_3 rfl (by decide) [1, 2, 3, 0] rfl rfl ?_
  obtain ⟨kk, hw⟩ := hw
  exact L4 i0 kk (0 : Int32) (0 : Int32) hw
set_option maxHeartbeats 4000000 in
set_option maxRecDepth 100000 in
theorem c_X9_hangs (l : Launch) (G : GG) (a0 : ModA) (v0 : ModV) (i0 : Int32) (Q : Int32 → Prop) (hw : wp_X9_hangs v0 i0 Q) : Con l G yX9_hangs cX9_hangs 6 (some .int) { frames := 2, cells := 0, slots := 0, locals := 43 } [.ref a0.1, .int i0] (wMod G a0 v0) (PI (fun _ : Unit => wMod G a0 v0) (fun r _ => Q r)) 0 0 := by
  refine con_of RX9 rfl (by decide) [(0, .ref a0.1), (1, .int i0)] rfl (Nat.le_of_ble_eq_true rfl) ?_
  intro p e s m args below meth c S hname
  have L15 : ∀ (x3 : Int32) (K6 : Int32 → Int32 → Prop) (hK6 : ∀ (y0 : Int32) (y1 : Int32), K6 y0 y1 → V p l e { frames := 2, cells := 0, slots := 0, locals := 43 } s m args below meth c G (va_A (wMod G a0 v0) s.heap.size) 6 0 0 (MQ below (EQ G (wMod G a0 v0) s.heap.size (PI (fun _ : Unit => wMod G a0 v0) (fun r _ => Q r))) args s 0 0 (va_A (wMod G a0 v0) s.heap.size)) (wMod G a0 v0) 6 [(0, .ref a0.1), (2, .int y0), (3, .int y1)] []) (kk : Nat) (x2 : Int32) (x4 : Int32), wp_X9_hangs_L15 v0 x3 Q K6 kk x2 x4 → V p l e { frames := 2, cells := 0, slots := 0, locals := 43 } s m args below meth c G (va_A (wMod G a0 v0) s.heap.size) 6 0 0 (MQ below (EQ G (wMod G a0 v0) s.heap.size (PI (fun _ : Unit => wMod G a0 v0) (fun r _ => Q r))) args s 0 0 (va_A (wMod G a0 v0) s.heap.size)) (wMod G a0 v0) 15 [(0, .ref a0.1), (2, .int x2), (3, .int x3), (4, .int x4)] [] := by
    intro x3 K6 hK6 kk
    induction kk with
    | zero => intro x2 x4 hw; exact hw.elim
    | succ n ih =>
      intro x2 x4 hw
      refine v_iload (pc2 := 17) S 3 dX9_hangs_15 rfl rfl ?_
      refine v_bipush (v := 10) (pc2 := 19) S dX9_hangs_17 (by decide) rfl ?_
      refine v_icmp_ge (pc2 := 22) (tgt := 74) S dX9_hangs_19 (by decide) rfl (fun c3 => ?_) (fun c3 => ?_)
      · have hw := hw.1 c3
        obtain ⟨z4, ez4⟩ : ∃ y : Int32, y = x3 + (1 : Int32) := ⟨_, rfl⟩
        have hw := hw z4 ez4
        refine v_iinc (v := z4) (lv2 := [(0, .ref a0.1), (2, .int x2), (3, .int z4), (4, .int x4)]) (pc2 := 77) S 2 dX9_hangs_74 rfl (by rw [ez4]; rfl) (by decide) [1, 2, 0, 3] rfl rfl ?_
        refine v_goto (tgt := 6) S dX9_hangs_77 (by decide) ?_
        refine v_lv [(0, .ref a0.1), (2, .int x2), (3, .int z4)] [0, 1, 2] rfl ?_
        exact hK6 x2 z4 hw
      · have hw := hw.2 c3
        refine v_iconst (v := 1) (pc2 := 23) S dX9_hangs_22 (by decide) rfl ?_
        refine v_aload_n (pc2 := 24) S 0 dX9_hangs_23 rfl rfl rfl ?_
        refine v_iload (pc2 := 26) S 3 dX9_hangs_24 rfl rfl ?_
        refine v_iconst (v := 1) (pc2 := 27) S dX9_hangs_26 (by decide) rfl ?_
        refine v_callV (pc2 := 30) (As := [.int x4, .int (1 : Int32)]) (rest := [.int (1 : Int32)]) S (c_X9_of l G a0 v0 x4 (1 : Int32) _ hw) mf_X9_of u_818 u_820 u_18 0 9 rfl rfl rfl rfl ⟨rfl, rfl⟩ ⟨Nat.le_of_ble_eq_true rfl, Nat.le_of_ble_eq_true rfl⟩ ⟨Nat.le_of_ble_eq_true rfl, Nat.le_of_ble_eq_true rfl⟩ (Nat.le_of_ble_eq_true rfl) dX9_hangs_27 (frW _) rfl (pi (fun r5 u6 hw => ?_))
        refine v_to (wMod G a0 v0) 30 [(0, .ref a0.1), (2, .int x2), (3, .int x3), (4, .int x4)] _ [.int r5, .int (1 : Int32)] rfl rfl rfl rfl ?_
        refine v_ishl (pc2 := 31) S dX9_hangs_30 rfl ?_
        refine v_iconst (v := 1) (pc2 := 32) S dX9_hangs_31 (by decide) rfl ?_
        refine v_aload_n (pc2 := 33) S 0 dX9_hangs_32 rfl rfl rfl ?_
        refine v_iload (pc2 := 35) S 3 dX9_hangs_33 rfl rfl ?_
        refine v_iconst (v := 2) (pc2 := 36) S dX9_hangs_35 (by decide) rfl ?_
        refine v_callV (pc2 := 39) (As := [.int x4, .int (2 : Int32)]) (rest := [.int (1 : Int32), .int ((1 : Int32) <<< (r5 &&& 31))]) S (c_X9_of l G a0 v0 x4 (2 : Int32) _ hw) mf_X9_of u_818 u_820 u_18 0 9 rfl rfl rfl rfl ⟨rfl, rfl⟩ ⟨Nat.le_of_ble_eq_true rfl, Nat.le_of_ble_eq_true rfl⟩ ⟨Nat.le_of_ble_eq_true rfl, Nat.le_of_ble_eq_true rfl⟩ (Nat.le_of_ble_eq_true rfl) dX9_hangs_36 (frW _) rfl (pi (fun r7 u8 hw => ?_))
        refine v_to (wMod G a0 v0) 39 [(0, .ref a0.1), (2, .int x2), (3, .int x3), (4, .int x4)] _ [.int r7, .int (1 : Int32), .int ((1 : Int32) <<< (r5 &&& 31))] rfl rfl rfl rfl ?_
        refine v_ishl (pc2 := 40) S dX9_hangs_39 rfl ?_
        refine v_ior (pc2 := 41) S dX9_hangs_40 rfl ?_
        refine v_nm (fun z9 ez9 => ?_)
        have hw := hw z9 ez9
        refine v_istore (lv2 := [(0, .ref a0.1), (2, .int x2), (3, .int x3), (4, .int x4), (5, .int z9)]) (pc2 := 43) S dX9_hangs_41 (by decide) [1, 2, 3, 4, 0] rfl rfl ?_
        refine v_iload_n (pc2 := 44) S 1 dX9_hangs_43 rfl rfl rfl ?_
        refine v_aload_n (pc2 := 45) S 0 dX9_hangs_44 rfl rfl rfl ?_
        refine v_iload (pc2 := 47) S 3 dX9_hangs_45 rfl rfl ?_
        refine v_callV (pc2 := 50) (As := [.int x4]) (rest := [.int x2]) S (c_X9_isOpen l G a0 v0 x4 _ hw) mf_X9_isOpen u_848 u_850 u_22 0 9 rfl rfl rfl rfl ⟨rfl, rfl⟩ ⟨Nat.le_of_ble_eq_true rfl, Nat.le_of_ble_eq_true rfl⟩ ⟨Nat.le_of_ble_eq_true rfl, Nat.le_of_ble_eq_true rfl⟩ (Nat.le_of_ble_eq_true rfl) dX9_hangs_47 (frW _) rfl (pb (fun r10 u11 br10 hw => ?_))
        refine v_to (wMod G a0 v0) 50 [(0, .ref a0.1), (2, .int x2), (3, .int x3), (4, .int x4), (5, .int z9)] _ [.int r10, .int x2] rfl rfl rfl rfl ?_
        refine v_if_eq (pc2 := 53) (tgt := 65) S dX9_hangs_50 (by decide) rfl (fun c12 => ?_) (fun c12 => ?_)
        · have hw := hw.1 c12
          refine v_iconst (v := 0) (pc2 := 66) S dX9_hangs_65 (by decide) rfl ?_
          refine v_ior (pc2 := 67) S dX9_hangs_66 rfl ?_
          refine v_nm (fun z13 ez13 => ?_)
          have hw := hw z13 ez13
          refine v_istore_n (lv2 := [(0, .ref a0.1), (2, .int z13), (3, .int x3), (4, .int x4), (5, .int z9)]) (pc2 := 68) S dX9_hangs_67 rfl (by decide) [1, 0, 2, 3, 4] rfl rfl ?_
          obtain ⟨z14, ez14⟩ : ∃ y : Int32, y = x4 + (1 : Int32) := ⟨_, rfl⟩
          have hw := hw z14 ez14
          refine v_iinc (v := z14) (lv2 := [(0, .ref a0.1), (2, .int z13), (3, .int x3), (4, .int z14), (5, .int z9)]) (pc2 := 71) S 3 dX9_hangs_68 rfl (by rw [ez14]; rfl) (by decide) [1, 2, 3, 0, 4] rfl rfl ?_
          refine v_goto (tgt := 15) S dX9_hangs_71 (by decide) ?_
          refine v_lv [(0, .ref a0.1), (2, .int z13), (3, .int x3), (4, .int z14)] [0, 1, 2, 3] rfl ?_
          exact ih z13 z14 hw
        · have hw := hw.2 c12
          refine v_iload_n (pc2 := 54) S 1 dX9_hangs_53 rfl rfl rfl ?_
          refine v_iload (pc2 := 56) S 4 dX9_hangs_54 rfl rfl ?_
          refine v_iand (pc2 := 57) S dX9_hangs_56 rfl ?_
          refine v_if_eq (pc2 := 60) (tgt := 65) S dX9_hangs_57 (by decide) rfl (fun c15 => ?_) (fun c15 => ?_)
          · have hw := hw.1 c15
            refine v_iconst (v := 0) (pc2 := 66) S dX9_hangs_65 (by decide) rfl ?_
            refine v_ior (pc2 := 67) S dX9_hangs_66 rfl ?_
            refine v_nm (fun z16 ez16 => ?_)
            have hw := hw z16 ez16
            refine v_istore_n (lv2 := [(0, .ref a0.1), (2, .int z16), (3, .int x3), (4, .int x4), (5, .int z9)]) (pc2 := 68) S dX9_hangs_67 rfl (by decide) [1, 0, 2, 3, 4] rfl rfl ?_
            obtain ⟨z17, ez17⟩ : ∃ y : Int32, y = x4 + (1 : Int32) := ⟨_, rfl⟩
            have hw := hw z17 ez17
            refine v_iinc (v := z17) (lv2 := [(0, .ref a0.1), (2, .int z16), (3, .int x3), (4, .int z17), (5, .int z9)]) (pc2 := 71) S 3 dX9_hangs_68 rfl (by rw [ez17]; rfl) (by decide) [1, 2, 3, 0, 4] rfl rfl ?_
            refine v_goto (tgt := 15) S dX9_hangs_71 (by decide) ?_
            refine v_lv [(0, .ref a0.1), (2, .int z16), (3, .int x3), (4, .int z17)] [0, 1, 2, 3] rfl ?_
            exact ih z16 z17 hw
          · have hw := hw.2 c15
            refine v_iload (pc2 := 62) S 4 dX9_hangs_60 rfl rfl ?_
            refine v_goto (tgt := 66) S dX9_hangs_62 (by decide) ?_
            refine v_ior (pc2 := 67) S dX9_hangs_66 rfl ?_
            refine v_nm (fun z18 ez18 => ?_)
            have hw := hw z18 ez18
            refine v_istore_n (lv2 := [(0, .ref a0.1), (2, .int z18), (3, .int x3), (4, .int x4), (5, .int z9)]) (pc2 := 68) S dX9_hangs_67 rfl (by decide) [1, 0, 2, 3, 4] rfl rfl ?_
            obtain ⟨z19, ez19⟩ : ∃ y : Int32, y = x4 + (1 : Int32) := ⟨_, rfl⟩
            have hw := hw z19 ez19
            refine v_iinc (v := z19) (lv2 := [(0, .ref a0.1), (2, .int z18), (3, .int x3), (4, .int z19), (5, .int z9)]) (pc2 := 71) S 3 dX9_hangs_68 rfl (by rw [ez19]; rfl) (by decide) [1, 2, 3, 0, 4] rfl rfl ?_
            refine v_goto (tgt := 15) S dX9_hangs_71 (by decide) ?_
            refine v_lv [(0, .ref a0.1), (2, .int z18), (3, .int x3), (4, .int z19)] [0, 1, 2, 3] rfl ?_
            exact ih z18 z19 hw
  have L6 : ∀ (kk : Nat) (x2 : Int32) (x3 : Int32), wp_X9_hangs_L6 v0 Q kk x2 x3 → V p l e { frames := 2, cells := 0, slots := 0, locals := 43 } s m args below meth c G (va_A (wMod G a0 v0) s.heap.size) 6 0 0 (MQ below (EQ G (wMod G a0 v0) s.heap.size (PI (fun _ : Unit => wMod G a0 v0) (fun r _ => Q r))) args s 0 0 (va_A (wMod G a0 v0) s.heap.size)) (wMod G a0 v0) 6 [(0, .ref a0.1), (2, .int x2), (3, .int x3)] [] := by
    intro kk
    induction kk with
    | zero => intro x2 x3 hw; exact hw.elim
    | succ n ih =>
      intro x2 x3 hw
      refine v_iload_n (pc2 := 7) S 2 dX9_hangs_6 rfl rfl rfl ?_
      refine v_bipush (v := 6) (pc2 := 9) S dX9_hangs_7 (by decide) rfl ?_
      refine v_icmp_ge (pc2 := 12) (tgt := 80) S dX9_hangs_9 (by decide) rfl (fun c2 => ?_) (fun c2 => ?_)
      · have hw := hw.1 c2
        refine v_iload_n (pc2 := 81) S 1 dX9_hangs_80 rfl rfl rfl ?_
        exact v_iret S ⟨x2, (), rfl, rfl, hw⟩ dX9_hangs_81
      · have hw := hw.2 c2
        refine v_iconst (v := 0) (pc2 := 13) S dX9_hangs_12 (by decide) rfl ?_
        refine v_istore (lv2 := [(0, .ref a0.1), (2, .int x2), (3, .int x3), (4, .int (0 : Int32))]) (pc2 := 15) S dX9_hangs_13 (by decide) [1, 2, 3, 0] rfl rfl ?_
        obtain ⟨kk, hw⟩ := hw
        exact L15 x3 (wp_X9_hangs_L6 v0 Q n) ih kk x2 (0 : Int32) hw
  refine v_iconst (v := 1) (pc2 := 1) S dX9_hangs_0 (by decide) rfl ?_
  refine v_iload_n (pc2 := 2) S 1 dX9_hangs_1 rfl rfl rfl ?_
  refine v_ishl (pc2 := 3) S dX9_hangs_2 rfl ?_
  refine v_nm (fun z1 ez1 => ?_)
  have hw := hw z1 ez1
  refine v_istore_n (lv2 := [(0, .ref a0.1), (1, .int i0), (2, .int z1)]) (pc2 := 4) S dX9_hangs_3 rfl (by decide) [1, 2, 0] rfl rfl ?_
  refine v_iconst (v := 0) (pc2 := 5) S dX9_hangs_4 (by decide) rfl ?_
  refine v_istore_n (lv2 := [(0, .ref a0.1), (1, .int i0), (2, .int z1), (3, .int (0 : Int32))]) (pc2 := 6) S dX9_hangs_5 rfl (by decide) [1, 2, 3, 0] rfl rfl ?_
  refine v_lv [(0, .ref a0.1), (2, .int z1), (3, .int (0 : Int32))] [0, 2, 3] rfl ?_
  obtain ⟨kk, hw⟩ := hw
  exact L6 kk z1 (0 : Int32) hw
set_option maxHeartbeats 4000000 in
set_option maxRecDepth 100000 in
theorem c_X9_size (l : Launch) (G : GG) (i0 : Int32) (Q : Int32 → Prop) (hw : wp_X9_size i0 Q) : Con l G yX9_size cX9_size 3 (some .int) { frames := 0, cells := 0, slots := 0, locals := 0 } [.int i0] ([]) (PI (fun _ : Unit => []) (fun r _ => Q r)) 0 0 := by
  refine con_of RX9 rfl (by decide) [(0, .int i0)] rfl (Nat.le_of_ble_eq_true rfl) ?_
  intro p e s m args below meth c S hname
  have L4 : ∀ (x0 : Int32) (kk : Nat) (x1 : Int32) (x2 : Int32), wp_X9_size_L4 x0 Q kk x1 x2 → V p l e { frames := 0, cells := 0, slots := 0, locals := 0 } s m args below meth c G (va_A ([]) s.heap.size) 3 0 0 (MQ below (EQ G ([]) s.heap.size (PI (fun _ : Unit => []) (fun r _ => Q r))) args s 0 0 (va_A ([]) s.heap.size)) ([]) 4 [(0, .int x0), (1, .int x1), (2, .int x2)] [] := by
    intro x0 kk
    induction kk with
    | zero => intro x1 x2 hw; exact hw.elim
    | succ n ih =>
      intro x1 x2 hw
      refine v_iload_n (pc2 := 5) S 2 dX9_size_4 rfl rfl rfl ?_
      refine v_bipush (v := 10) (pc2 := 7) S dX9_size_5 (by decide) rfl ?_
      refine v_icmp_ge (pc2 := 10) (tgt := 24) S dX9_size_7 (by decide) rfl (fun c1 => ?_) (fun c1 => ?_)
      · have hw := hw.1 c1
        refine v_iload_n (pc2 := 25) S 1 dX9_size_24 rfl rfl rfl ?_
        exact v_iret S ⟨x1, (), rfl, rfl, hw⟩ dX9_size_25
      · have hw := hw.2 c1
        refine v_iload_n (pc2 := 11) S 1 dX9_size_10 rfl rfl rfl ?_
        refine v_iload_n (pc2 := 12) S 0 dX9_size_11 rfl rfl rfl ?_
        refine v_iload_n (pc2 := 13) S 2 dX9_size_12 rfl rfl rfl ?_
        refine v_ishr (pc2 := 14) S dX9_size_13 rfl ?_
        refine v_iconst (v := 1) (pc2 := 15) S dX9_size_14 (by decide) rfl ?_
        refine v_iand (pc2 := 16) S dX9_size_15 rfl ?_
        refine v_iadd (pc2 := 17) S dX9_size_16 rfl ?_
        refine v_nm (fun z2 ez2 => ?_)
        have hw := hw z2 ez2
        refine v_istore_n (lv2 := [(0, .int x0), (1, .int z2), (2, .int x2)]) (pc2 := 18) S dX9_size_17 rfl (by decide) [1, 0, 2] rfl rfl ?_
        obtain ⟨z3, ez3⟩ : ∃ y : Int32, y = x2 + (1 : Int32) := ⟨_, rfl⟩
        have hw := hw z3 ez3
        refine v_iinc (v := z3) (lv2 := [(0, .int x0), (1, .int z2), (2, .int z3)]) (pc2 := 21) S 2 dX9_size_18 rfl (by rw [ez3]; rfl) (by decide) [1, 2, 0] rfl rfl ?_
        refine v_goto (tgt := 4) S dX9_size_21 (by decide) ?_
        exact ih z2 z3 hw
  refine v_iconst (v := 0) (pc2 := 1) S dX9_size_0 (by decide) rfl ?_
  refine v_istore_n (lv2 := [(0, .int i0), (1, .int (0 : Int32))]) (pc2 := 2) S dX9_size_1 rfl (by decide) [1, 0] rfl rfl ?_
  refine v_iconst (v := 0) (pc2 := 3) S dX9_size_2 (by decide) rfl ?_
  refine v_istore_n (lv2 := [(0, .int i0), (1, .int (0 : Int32)), (2, .int (0 : Int32))]) (pc2 := 4) S dX9_size_3 rfl (by decide) [1, 2, 0] rfl rfl ?_
  obtain ⟨kk, hw⟩ := hw
  exact L4 i0 kk (0 : Int32) (0 : Int32) hw
set_option maxHeartbeats 4000000 in
set_option maxRecDepth 100000 in
theorem c_X9_hall (l : Launch) (G : GG) (a0 : ModA) (v0 : ModV) (i0 : Int32) (i1 : Int32) (Q : Int32 → Prop) (hw : wp_X9_hall v0 i0 i1 Q) : Con l G yX9_hall cX9_hall 3 (some .int) { frames := 3, cells := 0, slots := 0, locals := 68 } [.ref a0.1, .int i0, .int i1] (wMod G a0 v0) (PI (fun _ : Unit => wMod G a0 v0) (fun r _ => Q r)) 0 0 := by
  refine con_of RX9 rfl (by decide) [(0, .ref a0.1), (1, .int i0), (2, .int i1)] rfl (Nat.le_of_ble_eq_true rfl) ?_
  intro p e s m args below meth c S hname
  refine v_iload_n (pc2 := 1) S 1 dX9_hall_0 rfl rfl rfl ?_
  refine v_callS (pc2 := 4) (As := [.int i0]) (rest := []) S (c_X9_isHall l G i0 _ hw) mf_X9_isHall u_943 u_944 rfl rfl ⟨rfl, rfl⟩ ⟨Nat.le_of_ble_eq_true rfl, Nat.le_of_ble_eq_true rfl⟩ ⟨Nat.le_of_ble_eq_true rfl, Nat.le_of_ble_eq_true rfl⟩ (Nat.le_of_ble_eq_true rfl) dX9_hall_1 (frM [] [] _) rfl (pb (fun r1 u2 br1 hw => ?_))
  refine v_to (wMod G a0 v0) 4 [(0, .ref a0.1), (1, .int i0), (2, .int i1)] _ [.int r1] rfl rfl rfl rfl ?_
  refine v_if_ne (pc2 := 7) (tgt := 9) S dX9_hall_4 (by decide) rfl (fun c3 => ?_) (fun c3 => ?_)
  · have hw := hw.1 c3
    refine v_iload_n (pc2 := 10) S 2 dX9_hall_9 rfl rfl rfl ?_
    by_cases c4 : i1 = (0 : Int32)
    · have hw := hw.1 c4
      refine v_tableIn (off := 30) (tgt := 40) S dX9_hall_10 (by rw [c4]; decide) (by rw [c4]; decide) (by rw [c4]; rfl) (by decide) ?_
      refine v_aload_n (pc2 := 41) S 0 dX9_hall_40 rfl rfl rfl ?_
      refine v_iload_n (pc2 := 42) S 1 dX9_hall_41 rfl rfl rfl ?_
      refine v_callV (pc2 := 45) (As := [.int i0]) (rest := []) S (c_X9_doorsOf l G a0 v0 i0 _ hw) mf_X9_doorsOf u_1014 u_1016 u_47 0 9 rfl rfl rfl rfl ⟨rfl, rfl⟩ ⟨Nat.le_of_ble_eq_true rfl, Nat.le_of_ble_eq_true rfl⟩ ⟨Nat.le_of_ble_eq_true rfl, Nat.le_of_ble_eq_true rfl⟩ (Nat.le_of_ble_eq_true rfl) dX9_hall_42 (frW _) rfl (pi (fun r5 u6 hw => ?_))
      refine v_to (wMod G a0 v0) 45 [(0, .ref a0.1), (1, .int i0), (2, .int i1)] _ [.int r5] rfl rfl rfl rfl ?_
      exact v_iret S ⟨r5, (), rfl, rfl, hw⟩ dX9_hall_45
    · have hw := hw.2
      by_cases c7 : i1 = (1 : Int32)
      · have hw := hw.1 c7
        refine v_tableIn (off := 36) (tgt := 46) S dX9_hall_10 (by rw [c7]; decide) (by rw [c7]; decide) (by rw [c7]; rfl) (by decide) ?_
        refine v_aload_n (pc2 := 47) S 0 dX9_hall_46 rfl rfl rfl ?_
        refine v_iload_n (pc2 := 48) S 1 dX9_hall_47 rfl rfl rfl ?_
        refine v_callV (pc2 := 51) (As := [.int i0]) (rest := []) S (c_X9_openIn l G a0 v0 i0 _ hw) mf_X9_openIn u_872 u_874 u_28 0 9 rfl rfl rfl rfl ⟨rfl, rfl⟩ ⟨Nat.le_of_ble_eq_true rfl, Nat.le_of_ble_eq_true rfl⟩ ⟨Nat.le_of_ble_eq_true rfl, Nat.le_of_ble_eq_true rfl⟩ (Nat.le_of_ble_eq_true rfl) dX9_hall_48 (frW _) rfl (pi (fun r8 u9 hw => ?_))
        refine v_to (wMod G a0 v0) 51 [(0, .ref a0.1), (1, .int i0), (2, .int i1)] _ [.int r8] rfl rfl rfl rfl ?_
        exact v_iret S ⟨r8, (), rfl, rfl, hw⟩ dX9_hall_51
      · have hw := hw.2
        by_cases c10 : i1 = (2 : Int32)
        · have hw := hw.1 c10
          refine v_tableIn (off := 42) (tgt := 52) S dX9_hall_10 (by rw [c10]; decide) (by rw [c10]; decide) (by rw [c10]; rfl) (by decide) ?_
          refine v_aload_n (pc2 := 53) S 0 dX9_hall_52 rfl rfl rfl ?_
          refine v_iload_n (pc2 := 54) S 1 dX9_hall_53 rfl rfl rfl ?_
          refine v_callV (pc2 := 57) (As := [.int i0]) (rest := []) S (c_X9_guestsIn l G a0 v0 i0 _ hw) mf_X9_guestsIn u_1018 u_1020 u_48 0 9 rfl rfl rfl rfl ⟨rfl, rfl⟩ ⟨Nat.le_of_ble_eq_true rfl, Nat.le_of_ble_eq_true rfl⟩ ⟨Nat.le_of_ble_eq_true rfl, Nat.le_of_ble_eq_true rfl⟩ (Nat.le_of_ble_eq_true rfl) dX9_hall_54 (frW _) rfl (pi (fun r11 u12 hw => ?_))
          refine v_to (wMod G a0 v0) 57 [(0, .ref a0.1), (1, .int i0), (2, .int i1)] _ [.int r11] rfl rfl rfl rfl ?_
          exact v_iret S ⟨r11, (), rfl, rfl, hw⟩ dX9_hall_57
        · have hw := hw.2
          by_cases c13 : i1 = (3 : Int32)
          · have hw := hw.1 c13
            refine v_tableIn (off := 48) (tgt := 58) S dX9_hall_10 (by rw [c13]; decide) (by rw [c13]; decide) (by rw [c13]; rfl) (by decide) ?_
            refine v_aload_n (pc2 := 59) S 0 dX9_hall_58 rfl rfl rfl ?_
            refine v_iload_n (pc2 := 60) S 1 dX9_hall_59 rfl rfl rfl ?_
            refine v_callV (pc2 := 63) (As := [.int i0]) (rest := []) S (c_X9_hangs l G a0 v0 i0 _ hw) mf_X9_hangs u_1022 u_1024 u_49 0 9 rfl rfl rfl rfl ⟨rfl, rfl⟩ ⟨Nat.le_of_ble_eq_true rfl, Nat.le_of_ble_eq_true rfl⟩ ⟨Nat.le_of_ble_eq_true rfl, Nat.le_of_ble_eq_true rfl⟩ (Nat.le_of_ble_eq_true rfl) dX9_hall_60 (frW _) rfl (pi (fun r14 u15 hw => ?_))
            refine v_to (wMod G a0 v0) 63 [(0, .ref a0.1), (1, .int i0), (2, .int i1)] _ [.int r14] rfl rfl rfl rfl ?_
            refine v_callS (pc2 := 66) (As := [.int r14]) (rest := []) S (c_X9_size l G r14 _ hw) mf_X9_size u_1026 u_1027 rfl rfl ⟨rfl, rfl⟩ ⟨Nat.le_of_ble_eq_true rfl, Nat.le_of_ble_eq_true rfl⟩ ⟨Nat.le_of_ble_eq_true rfl, Nat.le_of_ble_eq_true rfl⟩ (Nat.le_of_ble_eq_true rfl) dX9_hall_63 (frM [] [] _) rfl (pi (fun r16 u17 hw => ?_))
            refine v_to (wMod G a0 v0) 66 [(0, .ref a0.1), (1, .int i0), (2, .int i1)] _ [.int r16] rfl rfl rfl rfl ?_
            exact v_iret S ⟨r16, (), rfl, rfl, hw⟩ dX9_hall_66
          · have hw := hw.2
            have hw := hw c4 c7 c10 c13
            refine v_tableOut (tgt := 67) S dX9_hall_10 (sw_out3 c4 c7 c10 c13) (by decide) ?_
            refine v_iconst (v := -1) (pc2 := 68) S dX9_hall_67 (by decide) rfl ?_
            exact v_iret S ⟨(-1 : Int32), (), rfl, rfl, hw⟩ dX9_hall_68
  · have hw := hw.2 c3
    refine v_iconst (v := -1) (pc2 := 8) S dX9_hall_7 (by decide) rfl ?_
    exact v_iret S ⟨(-1 : Int32), (), rfl, rfl, hw⟩ dX9_hall_8
set_option maxHeartbeats 4000000 in
set_option maxRecDepth 100000 in
theorem c_X9_canOpen (l : Launch) (G : GG) (a0 : ModA) (v0 : ModV) (i0 : Int32) (Q : Int32 → Prop) (hw : wp_X9_canOpen v0 i0 Q) : Con l G yX9_canOpen cX9_canOpen 4 (some .int) { frames := 4, cells := 0, slots := 0, locals := 89 } [.ref a0.1, .int i0] (wMod G a0 v0) (PI (fun _ : Unit => wMod G a0 v0) (fun r _ => Q r)) 0 0 := by
  refine con_of RX9 rfl (by decide) [(0, .ref a0.1), (1, .int i0)] rfl (Nat.le_of_ble_eq_true rfl) ?_
  intro p e s m args below meth c S hname
  have L4 : ∀ (x1 : Int32) (kk : Nat) (x2 : Int32) (x3 : Int32), wp_X9_canOpen_L4 v0 x1 Q kk x2 x3 → V p l e { frames := 4, cells := 0, slots := 0, locals := 89 } s m args below meth c G (va_A (wMod G a0 v0) s.heap.size) 4 0 0 (MQ below (EQ G (wMod G a0 v0) s.heap.size (PI (fun _ : Unit => wMod G a0 v0) (fun r _ => Q r))) args s 0 0 (va_A (wMod G a0 v0) s.heap.size)) (wMod G a0 v0) 4 [(0, .ref a0.1), (1, .int x1), (2, .int x2), (3, .int x3)] [] := by
    intro x1 kk
    induction kk with
    | zero => intro x2 x3 hw; exact hw.elim
    | succ n ih =>
      intro x2 x3 hw
      refine v_iload_n (pc2 := 5) S 3 dX9_canOpen_4 rfl rfl rfl ?_
      refine v_bipush (v := 10) (pc2 := 7) S dX9_canOpen_5 (by decide) rfl ?_
      refine v_icmp_ge (pc2 := 10) (tgt := 50) S dX9_canOpen_7 (by decide) rfl (fun c1 => ?_) (fun c1 => ?_)
      · have hw := hw.1 c1
        refine v_iload_n (pc2 := 51) S 2 dX9_canOpen_50 rfl rfl rfl ?_
        exact v_iret S ⟨x2, (), rfl, rfl, hw⟩ dX9_canOpen_51
      · have hw := hw.2 c1
        refine v_iload_n (pc2 := 11) S 2 dX9_canOpen_10 rfl rfl rfl ?_
        refine v_aload_n (pc2 := 12) S 0 dX9_canOpen_11 rfl rfl rfl ?_
        refine v_iload_n (pc2 := 13) S 1 dX9_canOpen_12 rfl rfl rfl ?_
        refine v_iload_n (pc2 := 14) S 3 dX9_canOpen_13 rfl rfl rfl ?_
        refine v_callV (pc2 := 17) (As := [.int x1, .int x3]) (rest := [.int x2]) S (c_X9_isAt l G a0 v0 x1 x3 _ hw) mf_X9_isAt u_903 u_905 u_33 0 9 rfl rfl rfl rfl ⟨rfl, rfl⟩ ⟨Nat.le_of_ble_eq_true rfl, Nat.le_of_ble_eq_true rfl⟩ ⟨Nat.le_of_ble_eq_true rfl, Nat.le_of_ble_eq_true rfl⟩ (Nat.le_of_ble_eq_true rfl) dX9_canOpen_14 (frW _) rfl (pb (fun r2 u3 br2 hw => ?_))
        refine v_to (wMod G a0 v0) 17 [(0, .ref a0.1), (1, .int x1), (2, .int x2), (3, .int x3)] _ [.int r2, .int x2] rfl rfl rfl rfl ?_
        refine v_if_eq (pc2 := 20) (tgt := 41) S dX9_canOpen_17 (by decide) rfl (fun c4 => ?_) (fun c4 => ?_)
        · have hw := hw.1 c4
          refine v_iconst (v := 0) (pc2 := 42) S dX9_canOpen_41 (by decide) rfl ?_
          refine v_iadd (pc2 := 43) S dX9_canOpen_42 rfl ?_
          refine v_nm (fun z5 ez5 => ?_)
          have hw := hw z5 ez5
          refine v_istore_n (lv2 := [(0, .ref a0.1), (1, .int x1), (2, .int z5), (3, .int x3)]) (pc2 := 44) S dX9_canOpen_43 rfl (by decide) [1, 2, 0, 3] rfl rfl ?_
          obtain ⟨z6, ez6⟩ : ∃ y : Int32, y = x3 + (1 : Int32) := ⟨_, rfl⟩
          have hw := hw z6 ez6
          refine v_iinc (v := z6) (lv2 := [(0, .ref a0.1), (1, .int x1), (2, .int z5), (3, .int z6)]) (pc2 := 47) S 3 dX9_canOpen_44 rfl (by rw [ez6]; rfl) (by decide) [1, 2, 3, 0] rfl rfl ?_
          refine v_goto (tgt := 4) S dX9_canOpen_47 (by decide) ?_
          exact ih z5 z6 hw
        · have hw := hw.2 c4
          refine v_aload_n (pc2 := 21) S 0 dX9_canOpen_20 rfl rfl rfl ?_
          refine v_iload_n (pc2 := 22) S 1 dX9_canOpen_21 rfl rfl rfl ?_
          refine v_iload_n (pc2 := 23) S 3 dX9_canOpen_22 rfl rfl rfl ?_
          refine v_callV (pc2 := 26) (As := [.int x1, .int x3]) (rest := [.int x2]) S (c_X9_hasKey l G a0 v0 x1 x3 _ hw) mf_X9_hasKey u_911 u_913 u_35 0 9 rfl rfl rfl rfl ⟨rfl, rfl⟩ ⟨Nat.le_of_ble_eq_true rfl, Nat.le_of_ble_eq_true rfl⟩ ⟨Nat.le_of_ble_eq_true rfl, Nat.le_of_ble_eq_true rfl⟩ (Nat.le_of_ble_eq_true rfl) dX9_canOpen_23 (frW _) rfl (pb (fun r7 u8 br7 hw => ?_))
          refine v_to (wMod G a0 v0) 26 [(0, .ref a0.1), (1, .int x1), (2, .int x2), (3, .int x3)] _ [.int r7, .int x2] rfl rfl rfl rfl ?_
          refine v_if_eq (pc2 := 29) (tgt := 41) S dX9_canOpen_26 (by decide) rfl (fun c9 => ?_) (fun c9 => ?_)
          · have hw := hw.1 c9
            refine v_iconst (v := 0) (pc2 := 42) S dX9_canOpen_41 (by decide) rfl ?_
            refine v_iadd (pc2 := 43) S dX9_canOpen_42 rfl ?_
            refine v_nm (fun z10 ez10 => ?_)
            have hw := hw z10 ez10
            refine v_istore_n (lv2 := [(0, .ref a0.1), (1, .int x1), (2, .int z10), (3, .int x3)]) (pc2 := 44) S dX9_canOpen_43 rfl (by decide) [1, 2, 0, 3] rfl rfl ?_
            obtain ⟨z11, ez11⟩ : ∃ y : Int32, y = x3 + (1 : Int32) := ⟨_, rfl⟩
            have hw := hw z11 ez11
            refine v_iinc (v := z11) (lv2 := [(0, .ref a0.1), (1, .int x1), (2, .int z10), (3, .int z11)]) (pc2 := 47) S 3 dX9_canOpen_44 rfl (by rw [ez11]; rfl) (by decide) [1, 2, 3, 0] rfl rfl ?_
            refine v_goto (tgt := 4) S dX9_canOpen_47 (by decide) ?_
            exact ih z10 z11 hw
          · have hw := hw.2 c9
            refine v_aload_n (pc2 := 30) S 0 dX9_canOpen_29 rfl rfl rfl ?_
            refine v_iload_n (pc2 := 31) S 3 dX9_canOpen_30 rfl rfl rfl ?_
            refine v_callV (pc2 := 34) (As := [.int x3]) (rest := [.int x2]) S (c_X9_reason l G a0 v0 x3 _ hw) mf_X9_reason u_844 u_846 u_21 0 9 rfl rfl rfl rfl ⟨rfl, rfl⟩ ⟨Nat.le_of_ble_eq_true rfl, Nat.le_of_ble_eq_true rfl⟩ ⟨Nat.le_of_ble_eq_true rfl, Nat.le_of_ble_eq_true rfl⟩ (Nat.le_of_ble_eq_true rfl) dX9_canOpen_31 (frW _) rfl (pi (fun r12 u13 hw => ?_))
            refine v_to (wMod G a0 v0) 34 [(0, .ref a0.1), (1, .int x1), (2, .int x2), (3, .int x3)] _ [.int r12, .int x2] rfl rfl rfl rfl ?_
            refine v_if_ne (pc2 := 37) (tgt := 41) S dX9_canOpen_34 (by decide) rfl (fun c14 => ?_) (fun c14 => ?_)
            · have hw := hw.1 c14
              refine v_iconst (v := 0) (pc2 := 42) S dX9_canOpen_41 (by decide) rfl ?_
              refine v_iadd (pc2 := 43) S dX9_canOpen_42 rfl ?_
              refine v_nm (fun z15 ez15 => ?_)
              have hw := hw z15 ez15
              refine v_istore_n (lv2 := [(0, .ref a0.1), (1, .int x1), (2, .int z15), (3, .int x3)]) (pc2 := 44) S dX9_canOpen_43 rfl (by decide) [1, 2, 0, 3] rfl rfl ?_
              obtain ⟨z16, ez16⟩ : ∃ y : Int32, y = x3 + (1 : Int32) := ⟨_, rfl⟩
              have hw := hw z16 ez16
              refine v_iinc (v := z16) (lv2 := [(0, .ref a0.1), (1, .int x1), (2, .int z15), (3, .int z16)]) (pc2 := 47) S 3 dX9_canOpen_44 rfl (by rw [ez16]; rfl) (by decide) [1, 2, 3, 0] rfl rfl ?_
              refine v_goto (tgt := 4) S dX9_canOpen_47 (by decide) ?_
              exact ih z15 z16 hw
            · have hw := hw.2 c14
              refine v_iconst (v := 1) (pc2 := 38) S dX9_canOpen_37 (by decide) rfl ?_
              refine v_goto (tgt := 42) S dX9_canOpen_38 (by decide) ?_
              refine v_iadd (pc2 := 43) S dX9_canOpen_42 rfl ?_
              refine v_nm (fun z17 ez17 => ?_)
              have hw := hw z17 ez17
              refine v_istore_n (lv2 := [(0, .ref a0.1), (1, .int x1), (2, .int z17), (3, .int x3)]) (pc2 := 44) S dX9_canOpen_43 rfl (by decide) [1, 2, 0, 3] rfl rfl ?_
              obtain ⟨z18, ez18⟩ : ∃ y : Int32, y = x3 + (1 : Int32) := ⟨_, rfl⟩
              have hw := hw z18 ez18
              refine v_iinc (v := z18) (lv2 := [(0, .ref a0.1), (1, .int x1), (2, .int z17), (3, .int z18)]) (pc2 := 47) S 3 dX9_canOpen_44 rfl (by rw [ez18]; rfl) (by decide) [1, 2, 3, 0] rfl rfl ?_
              refine v_goto (tgt := 4) S dX9_canOpen_47 (by decide) ?_
              exact ih z17 z18 hw
  refine v_iconst (v := 0) (pc2 := 1) S dX9_canOpen_0 (by decide) rfl ?_
  refine v_istore_n (lv2 := [(0, .ref a0.1), (1, .int i0), (2, .int (0 : Int32))]) (pc2 := 2) S dX9_canOpen_1 rfl (by decide) [1, 2, 0] rfl rfl ?_
  refine v_iconst (v := 0) (pc2 := 3) S dX9_canOpen_2 (by decide) rfl ?_
  refine v_istore_n (lv2 := [(0, .ref a0.1), (1, .int i0), (2, .int (0 : Int32)), (3, .int (0 : Int32))]) (pc2 := 4) S dX9_canOpen_3 rfl (by decide) [1, 2, 3, 0] rfl rfl ?_
  obtain ⟨kk, hw⟩ := hw
  exact L4 i0 kk (0 : Int32) (0 : Int32) hw
set_option maxHeartbeats 4000000 in
set_option maxRecDepth 100000 in
theorem c_X9_guest (l : Launch) (G : GG) (a0 : ModA) (v0 : ModV) (i0 : Int32) (i1 : Int32) (Q : Int32 → Prop) (hw : wp_X9_guest v0 i0 i1 Q) : Con l G yX9_guest cX9_guest 3 (some .int) { frames := 5, cells := 0, slots := 0, locals := 112 } [.ref a0.1, .int i0, .int i1] (wMod G a0 v0) (PI (fun _ : Unit => wMod G a0 v0) (fun r _ => Q r)) 0 0 := by
  refine con_of RX9 rfl (by decide) [(0, .ref a0.1), (1, .int i0), (2, .int i1)] rfl (Nat.le_of_ble_eq_true rfl) ?_
  intro p e s m args below meth c S hname
  refine v_iload_n (pc2 := 1) S 1 dX9_guest_0 rfl rfl rfl ?_
  refine v_callS (pc2 := 4) (As := [.int i0]) (rest := []) S (c_X9_isGuest l G i0 _ hw) mf_X9_isGuest u_896 u_897 rfl rfl ⟨rfl, rfl⟩ ⟨Nat.le_of_ble_eq_true rfl, Nat.le_of_ble_eq_true rfl⟩ ⟨Nat.le_of_ble_eq_true rfl, Nat.le_of_ble_eq_true rfl⟩ (Nat.le_of_ble_eq_true rfl) dX9_guest_1 (frM [] [] _) rfl (pb (fun r1 u2 br1 hw => ?_))
  refine v_to (wMod G a0 v0) 4 [(0, .ref a0.1), (1, .int i0), (2, .int i1)] _ [.int r1] rfl rfl rfl rfl ?_
  refine v_if_ne (pc2 := 7) (tgt := 9) S dX9_guest_4 (by decide) rfl (fun c3 => ?_) (fun c3 => ?_)
  · have hw := hw.1 c3
    refine v_iload_n (pc2 := 10) S 2 dX9_guest_9 rfl rfl rfl ?_
    by_cases c4 : i1 = (0 : Int32)
    · have hw := hw.1 c4
      refine v_tableIn (off := 30) (tgt := 40) S dX9_guest_10 (by rw [c4]; decide) (by rw [c4]; decide) (by rw [c4]; rfl) (by decide) ?_
      refine v_aload_n (pc2 := 41) S 0 dX9_guest_40 rfl rfl rfl ?_
      refine v_iload_n (pc2 := 42) S 1 dX9_guest_41 rfl rfl rfl ?_
      refine v_iload_n (pc2 := 43) S 2 dX9_guest_42 rfl rfl rfl ?_
      refine v_callV (pc2 := 46) (As := [.int i0, .int i1]) (rest := []) S (c_X9_ofGuest l G a0 v0 i0 i1 _ hw) mf_X9_ofGuest u_907 u_909 u_34 0 9 rfl rfl rfl rfl ⟨rfl, rfl⟩ ⟨Nat.le_of_ble_eq_true rfl, Nat.le_of_ble_eq_true rfl⟩ ⟨Nat.le_of_ble_eq_true rfl, Nat.le_of_ble_eq_true rfl⟩ (Nat.le_of_ble_eq_true rfl) dX9_guest_43 (frW _) rfl (pi (fun r5 u6 hw => ?_))
      refine v_to (wMod G a0 v0) 46 [(0, .ref a0.1), (1, .int i0), (2, .int i1)] _ [.int r5] rfl rfl rfl rfl ?_
      exact v_iret S ⟨r5, (), rfl, rfl, hw⟩ dX9_guest_46
    · have hw := hw.2
      by_cases c7 : i1 = (1 : Int32)
      · have hw := hw.1 c7
        refine v_tableIn (off := 30) (tgt := 40) S dX9_guest_10 (by rw [c7]; decide) (by rw [c7]; decide) (by rw [c7]; rfl) (by decide) ?_
        refine v_aload_n (pc2 := 41) S 0 dX9_guest_40 rfl rfl rfl ?_
        refine v_iload_n (pc2 := 42) S 1 dX9_guest_41 rfl rfl rfl ?_
        refine v_iload_n (pc2 := 43) S 2 dX9_guest_42 rfl rfl rfl ?_
        refine v_callV (pc2 := 46) (As := [.int i0, .int i1]) (rest := []) S (c_X9_ofGuest l G a0 v0 i0 i1 _ hw) mf_X9_ofGuest u_907 u_909 u_34 0 9 rfl rfl rfl rfl ⟨rfl, rfl⟩ ⟨Nat.le_of_ble_eq_true rfl, Nat.le_of_ble_eq_true rfl⟩ ⟨Nat.le_of_ble_eq_true rfl, Nat.le_of_ble_eq_true rfl⟩ (Nat.le_of_ble_eq_true rfl) dX9_guest_43 (frW _) rfl (pi (fun r8 u9 hw => ?_))
        refine v_to (wMod G a0 v0) 46 [(0, .ref a0.1), (1, .int i0), (2, .int i1)] _ [.int r8] rfl rfl rfl rfl ?_
        exact v_iret S ⟨r8, (), rfl, rfl, hw⟩ dX9_guest_46
      · have hw := hw.2
        by_cases c10 : i1 = (2 : Int32)
        · have hw := hw.1 c10
          refine v_tableIn (off := 37) (tgt := 47) S dX9_guest_10 (by rw [c10]; decide) (by rw [c10]; decide) (by rw [c10]; rfl) (by decide) ?_
          refine v_aload_n (pc2 := 48) S 0 dX9_guest_47 rfl rfl rfl ?_
          refine v_iload_n (pc2 := 49) S 1 dX9_guest_48 rfl rfl rfl ?_
          refine v_callV (pc2 := 52) (As := [.int i0]) (rest := []) S (c_X9_canOpen l G a0 v0 i0 _ hw) mf_X9_canOpen u_1033 u_1035 u_50 0 9 rfl rfl rfl rfl ⟨rfl, rfl⟩ ⟨Nat.le_of_ble_eq_true rfl, Nat.le_of_ble_eq_true rfl⟩ ⟨Nat.le_of_ble_eq_true rfl, Nat.le_of_ble_eq_true rfl⟩ (Nat.le_of_ble_eq_true rfl) dX9_guest_49 (frW _) rfl (pi (fun r11 u12 hw => ?_))
          refine v_to (wMod G a0 v0) 52 [(0, .ref a0.1), (1, .int i0), (2, .int i1)] _ [.int r11] rfl rfl rfl rfl ?_
          exact v_iret S ⟨r11, (), rfl, rfl, hw⟩ dX9_guest_52
        · have hw := hw.2
          by_cases c13 : i1 = (3 : Int32)
          · have hw := hw.1 c13
            refine v_tableIn (off := 43) (tgt := 53) S dX9_guest_10 (by rw [c13]; decide) (by rw [c13]; decide) (by rw [c13]; rfl) (by decide) ?_
            refine v_aload_n (pc2 := 54) S 0 dX9_guest_53 rfl rfl rfl ?_
            refine v_iload_n (pc2 := 55) S 1 dX9_guest_54 rfl rfl rfl ?_
            refine v_iconst (v := 2) (pc2 := 56) S dX9_guest_55 (by decide) rfl ?_
            refine v_callV (pc2 := 59) (As := [.int i0, .int (2 : Int32)]) (rest := []) S (c_X9_ofGuest l G a0 v0 i0 (2 : Int32) _ hw) mf_X9_ofGuest u_907 u_909 u_34 0 9 rfl rfl rfl rfl ⟨rfl, rfl⟩ ⟨Nat.le_of_ble_eq_true rfl, Nat.le_of_ble_eq_true rfl⟩ ⟨Nat.le_of_ble_eq_true rfl, Nat.le_of_ble_eq_true rfl⟩ (Nat.le_of_ble_eq_true rfl) dX9_guest_56 (frW _) rfl (pi (fun r14 u15 hw => ?_))
            refine v_to (wMod G a0 v0) 59 [(0, .ref a0.1), (1, .int i0), (2, .int i1)] _ [.int r14] rfl rfl rfl rfl ?_
            exact v_iret S ⟨r14, (), rfl, rfl, hw⟩ dX9_guest_59
          · have hw := hw.2
            have hw := hw c4 c7 c10 c13
            refine v_tableOut (tgt := 60) S dX9_guest_10 (sw_out3 c4 c7 c10 c13) (by decide) ?_
            refine v_iconst (v := -1) (pc2 := 61) S dX9_guest_60 (by decide) rfl ?_
            exact v_iret S ⟨(-1 : Int32), (), rfl, rfl, hw⟩ dX9_guest_61
  · have hw := hw.2 c3
    refine v_iconst (v := -1) (pc2 := 8) S dX9_guest_7 (by decide) rfl ?_
    exact v_iret S ⟨(-1 : Int32), (), rfl, rfl, hw⟩ dX9_guest_8
set_option maxHeartbeats 4000000 in
set_option maxRecDepth 100000 in
theorem c_X9_whyNot (l : Launch) (G : GG) (a0 : ModA) (v0 : ModV) (i0 : Int32) (Q : Int32 → Prop) (hw : wp_X9_whyNot v0 i0 Q) : Con l G yX9_whyNot cX9_whyNot 2 (some .int) { frames := 4, cells := 0, slots := 0, locals := 89 } [.ref a0.1, .int i0] (wMod G a0 v0) (PI (fun _ : Unit => wMod G a0 v0) (fun r _ => Q r)) 0 0 := by
  refine con_of RX9 rfl (by decide) [(0, .ref a0.1), (1, .int i0)] rfl (Nat.le_of_ble_eq_true rfl) ?_
  intro p e s m args below meth c S hname
  refine v_iload_n (pc2 := 1) S 1 dX9_whyNot_0 rfl rfl rfl ?_
  refine v_callS (pc2 := 4) (As := [.int i0]) (rest := []) S (c_X9_isDoor l G i0 _ hw) mf_X9_isDoor u_834 u_835 rfl rfl ⟨rfl, rfl⟩ ⟨Nat.le_of_ble_eq_true rfl, Nat.le_of_ble_eq_true rfl⟩ ⟨Nat.le_of_ble_eq_true rfl, Nat.le_of_ble_eq_true rfl⟩ (Nat.le_of_ble_eq_true rfl) dX9_whyNot_1 (frM [] [] _) rfl (pb (fun r1 u2 br1 hw => ?_))
  refine v_to (wMod G a0 v0) 4 [(0, .ref a0.1), (1, .int i0)] _ [.int r1] rfl rfl rfl rfl ?_
  refine v_if_eq (pc2 := 7) (tgt := 15) S dX9_whyNot_4 (by decide) rfl (fun c3 => ?_) (fun c3 => ?_)
  · have hw := hw.1 c3
    refine v_iconst (v := -1) (pc2 := 16) S dX9_whyNot_15 (by decide) rfl ?_
    exact v_iret S ⟨(-1 : Int32), (), rfl, rfl, hw⟩ dX9_whyNot_16
  · have hw := hw.2 c3
    refine v_aload_n (pc2 := 8) S 0 dX9_whyNot_7 rfl rfl rfl ?_
    refine v_iload_n (pc2 := 9) S 1 dX9_whyNot_8 rfl rfl rfl ?_
    refine v_callV (pc2 := 12) (As := [.int i0]) (rest := []) S (c_X9_reason l G a0 v0 i0 _ hw) mf_X9_reason u_844 u_846 u_21 0 9 rfl rfl rfl rfl ⟨rfl, rfl⟩ ⟨Nat.le_of_ble_eq_true rfl, Nat.le_of_ble_eq_true rfl⟩ ⟨Nat.le_of_ble_eq_true rfl, Nat.le_of_ble_eq_true rfl⟩ (Nat.le_of_ble_eq_true rfl) dX9_whyNot_9 (frW _) rfl (pi (fun r4 u5 hw => ?_))
    refine v_to (wMod G a0 v0) 12 [(0, .ref a0.1), (1, .int i0)] _ [.int r4] rfl rfl rfl rfl ?_
    refine v_goto (tgt := 16) S dX9_whyNot_12 (by decide) ?_
    exact v_iret S ⟨r4, (), rfl, rfl, hw⟩ dX9_whyNot_16
set_option maxHeartbeats 4000000 in
set_option maxRecDepth 100000 in
theorem c_X9_canBe (l : Launch) (G : GG) (a0 : ModA) (v0 : ModV) (i0 : Int32) (Q : Int32 → Prop) (hw : wp_X9_canBe v0 i0 Q) : Con l G yX9_canBe cX9_canBe 6 (some .boolean) { frames := 2, cells := 0, slots := 0, locals := 44 } [.ref a0.1, .int i0] (wMod G a0 v0) (PB (fun _ : Unit => wMod G a0 v0) (fun r _ => Q r)) 0 0 := by
  refine con_of RX9 rfl (by decide) [(0, .ref a0.1), (1, .int i0)] rfl (Nat.le_of_ble_eq_true rfl) ?_
  intro p e s m args below meth c S hname
  have L79 : ∀ (x1 : Int32) (x2 : Int32) (x3 : Int32) (K67 : Int32 → Int32 → Prop) (hK67 : ∀ (y0 : Int32) (y1 : Int32), K67 y0 y1 → V p l e { frames := 2, cells := 0, slots := 0, locals := 44 } s m args below meth c G (va_A (wMod G a0 v0) s.heap.size) 6 0 0 (MQ below (EQ G (wMod G a0 v0) s.heap.size (PB (fun _ : Unit => wMod G a0 v0) (fun r _ => Q r))) args s 0 0 (va_A (wMod G a0 v0) s.heap.size)) (wMod G a0 v0) 67 [(0, .ref a0.1), (1, .int x1), (2, .int y0), (3, .int y1)] []) (kk : Nat) (x4 : Int32) (x5 : Int32), wp_X9_canBe_L79 v0 x1 x2 x3 Q K67 kk x4 x5 → V p l e { frames := 2, cells := 0, slots := 0, locals := 44 } s m args below meth c G (va_A (wMod G a0 v0) s.heap.size) 6 0 0 (MQ below (EQ G (wMod G a0 v0) s.heap.size (PB (fun _ : Unit => wMod G a0 v0) (fun r _ => Q r))) args s 0 0 (va_A (wMod G a0 v0) s.heap.size)) (wMod G a0 v0) 79 [(0, .ref a0.1), (1, .int x1), (2, .int x2), (3, .int x3), (4, .int x4), (5, .int x5)] [] := by
    intro x1 x2 x3 K67 hK67 kk
    induction kk with
    | zero => intro x4 x5 hw; exact hw.elim
    | succ n ih =>
      intro x4 x5 hw
      refine v_iload (pc2 := 81) S 5 dX9_canBe_79 rfl rfl ?_
      refine v_bipush (v := 10) (pc2 := 83) S dX9_canBe_81 (by decide) rfl ?_
      refine v_icmp_ge (pc2 := 86) (tgt := 122) S dX9_canBe_83 (by decide) rfl (fun c3 => ?_) (fun c3 => ?_)
      · have hw := hw.1 c3
        refine v_iload_n (pc2 := 123) S 2 dX9_canBe_122 rfl rfl rfl ?_
        refine v_if_eq (pc2 := 126) (tgt := 141) S dX9_canBe_123 (by decide) rfl (fun c4 => ?_) (fun c4 => ?_)
        · have hw := hw.1 c4
          refine v_iconst (v := 0) (pc2 := 142) S dX9_canBe_141 (by decide) rfl ?_
          refine v_istore_n (lv2 := [(0, .ref a0.1), (1, .int x1), (2, .int (0 : Int32)), (3, .int x3), (4, .int x4), (5, .int x5)]) (pc2 := 143) S dX9_canBe_142 rfl (by decide) [1, 2, 0, 3, 4, 5] rfl rfl ?_
          obtain ⟨z5, ez5⟩ : ∃ y : Int32, y = x3 + (1 : Int32) := ⟨_, rfl⟩
          have hw := hw z5 ez5
          refine v_iinc (v := z5) (lv2 := [(0, .ref a0.1), (1, .int x1), (2, .int (0 : Int32)), (3, .int z5), (4, .int x4), (5, .int x5)]) (pc2 := 146) S 3 dX9_canBe_143 rfl (by rw [ez5]; rfl) (by decide) [1, 2, 3, 0, 4, 5] rfl rfl ?_
          refine v_goto (tgt := 67) S dX9_canBe_146 (by decide) ?_
          refine v_lv [(0, .ref a0.1), (1, .int x1), (2, .int (0 : Int32)), (3, .int z5)] [0, 1, 2, 3] rfl ?_
          exact hK67 (0 : Int32) z5 hw
        · have hw := hw.2 c4
          refine v_iload (pc2 := 128) S 4 dX9_canBe_126 rfl rfl ?_
          refine v_aload_n (pc2 := 129) S 0 dX9_canBe_128 rfl rfl rfl ?_
          refine v_get (v := .ref a0.2.1) (pc2 := 132) S gf_X9_7 0 rfl rfl dX9_canBe_129 rfl ?_
          refine v_iconst (v := 0) (pc2 := 133) S dX9_canBe_132 (by decide) rfl ?_
          obtain ⟨h6, hw⟩ := hw
          refine v_iald (pc2 := 134) S 1 rfl h6 dX9_canBe_133 rfl ?_
          refine v_icmp_gt (pc2 := 137) (tgt := 141) S dX9_canBe_134 (by decide) rfl (fun c7 => ?_) (fun c7 => ?_)
          · have hw := hw.1 c7
            refine v_iconst (v := 0) (pc2 := 142) S dX9_canBe_141 (by decide) rfl ?_
            refine v_istore_n (lv2 := [(0, .ref a0.1), (1, .int x1), (2, .int (0 : Int32)), (3, .int x3), (4, .int x4), (5, .int x5)]) (pc2 := 143) S dX9_canBe_142 rfl (by decide) [1, 2, 0, 3, 4, 5] rfl rfl ?_
            obtain ⟨z8, ez8⟩ : ∃ y : Int32, y = x3 + (1 : Int32) := ⟨_, rfl⟩
            have hw := hw z8 ez8
            refine v_iinc (v := z8) (lv2 := [(0, .ref a0.1), (1, .int x1), (2, .int (0 : Int32)), (3, .int z8), (4, .int x4), (5, .int x5)]) (pc2 := 146) S 3 dX9_canBe_143 rfl (by rw [ez8]; rfl) (by decide) [1, 2, 3, 0, 4, 5] rfl rfl ?_
            refine v_goto (tgt := 67) S dX9_canBe_146 (by decide) ?_
            refine v_lv [(0, .ref a0.1), (1, .int x1), (2, .int (0 : Int32)), (3, .int z8)] [0, 1, 2, 3] rfl ?_
            exact hK67 (0 : Int32) z8 hw
          · have hw := hw.2 c7
            refine v_iconst (v := 1) (pc2 := 138) S dX9_canBe_137 (by decide) rfl ?_
            refine v_goto (tgt := 142) S dX9_canBe_138 (by decide) ?_
            refine v_istore_n (lv2 := [(0, .ref a0.1), (1, .int x1), (2, .int (1 : Int32)), (3, .int x3), (4, .int x4), (5, .int x5)]) (pc2 := 143) S dX9_canBe_142 rfl (by decide) [1, 2, 0, 3, 4, 5] rfl rfl ?_
            obtain ⟨z9, ez9⟩ : ∃ y : Int32, y = x3 + (1 : Int32) := ⟨_, rfl⟩
            have hw := hw z9 ez9
            refine v_iinc (v := z9) (lv2 := [(0, .ref a0.1), (1, .int x1), (2, .int (1 : Int32)), (3, .int z9), (4, .int x4), (5, .int x5)]) (pc2 := 146) S 3 dX9_canBe_143 rfl (by rw [ez9]; rfl) (by decide) [1, 2, 3, 0, 4, 5] rfl rfl ?_
            refine v_goto (tgt := 67) S dX9_canBe_146 (by decide) ?_
            refine v_lv [(0, .ref a0.1), (1, .int x1), (2, .int (1 : Int32)), (3, .int z9)] [0, 1, 2, 3] rfl ?_
            exact hK67 (1 : Int32) z9 hw
      · have hw := hw.2 c3
        refine v_iload (pc2 := 88) S 4 dX9_canBe_86 rfl rfl ?_
        refine v_iload_n (pc2 := 89) S 1 dX9_canBe_88 rfl rfl rfl ?_
        refine v_iload (pc2 := 91) S 5 dX9_canBe_89 rfl rfl ?_
        refine v_ishr (pc2 := 92) S dX9_canBe_91 rfl ?_
        refine v_iconst (v := 1) (pc2 := 93) S dX9_canBe_92 (by decide) rfl ?_
        refine v_iand (pc2 := 94) S dX9_canBe_93 rfl ?_
        refine v_iconst (v := 1) (pc2 := 95) S dX9_canBe_94 (by decide) rfl ?_
        refine v_icmp_ne (pc2 := 98) (tgt := 112) S dX9_canBe_95 (by decide) rfl (fun c10 => ?_) (fun c10 => ?_)
        · have hw := hw.1 c10
          refine v_iconst (v := 0) (pc2 := 113) S dX9_canBe_112 (by decide) rfl ?_
          refine v_iadd (pc2 := 114) S dX9_canBe_113 rfl ?_
          refine v_nm (fun z11 ez11 => ?_)
          have hw := hw z11 ez11
          refine v_istore (lv2 := [(0, .ref a0.1), (1, .int x1), (2, .int x2), (3, .int x3), (4, .int z11), (5, .int x5)]) (pc2 := 116) S dX9_canBe_114 (by decide) [1, 2, 3, 4, 0, 5] rfl rfl ?_
          obtain ⟨z12, ez12⟩ : ∃ y : Int32, y = x5 + (1 : Int32) := ⟨_, rfl⟩
          have hw := hw z12 ez12
          refine v_iinc (v := z12) (lv2 := [(0, .ref a0.1), (1, .int x1), (2, .int x2), (3, .int x3), (4, .int z11), (5, .int z12)]) (pc2 := 119) S 5 dX9_canBe_116 rfl (by rw [ez12]; rfl) (by decide) [1, 2, 3, 4, 5, 0] rfl rfl ?_
          refine v_goto (tgt := 79) S dX9_canBe_119 (by decide) ?_
          exact ih z11 z12 hw
        · have hw := hw.2 c10
          refine v_aload_n (pc2 := 99) S 0 dX9_canBe_98 rfl rfl rfl ?_
          refine v_iload (pc2 := 101) S 5 dX9_canBe_99 rfl rfl ?_
          refine v_iload_n (pc2 := 102) S 3 dX9_canBe_101 rfl rfl rfl ?_
          refine v_callV (pc2 := 105) (As := [.int x5, .int x3]) (rest := [.int x4]) S (c_X9_joins l G a0 v0 x5 x3 _ hw) mf_X9_joins u_876 u_878 u_29 0 9 rfl rfl rfl rfl ⟨rfl, rfl⟩ ⟨Nat.le_of_ble_eq_true rfl, Nat.le_of_ble_eq_true rfl⟩ ⟨Nat.le_of_ble_eq_true rfl, Nat.le_of_ble_eq_true rfl⟩ (Nat.le_of_ble_eq_true rfl) dX9_canBe_102 (frW _) rfl (pb (fun r13 u14 br13 hw => ?_))
          refine v_to (wMod G a0 v0) 105 [(0, .ref a0.1), (1, .int x1), (2, .int x2), (3, .int x3), (4, .int x4), (5, .int x5)] _ [.int r13, .int x4] rfl rfl rfl rfl ?_
          refine v_if_eq (pc2 := 108) (tgt := 112) S dX9_canBe_105 (by decide) rfl (fun c15 => ?_) (fun c15 => ?_)
          · have hw := hw.1 c15
            refine v_iconst (v := 0) (pc2 := 113) S dX9_canBe_112 (by decide) rfl ?_
            refine v_iadd (pc2 := 114) S dX9_canBe_113 rfl ?_
            refine v_nm (fun z16 ez16 => ?_)
            have hw := hw z16 ez16
            refine v_istore (lv2 := [(0, .ref a0.1), (1, .int x1), (2, .int x2), (3, .int x3), (4, .int z16), (5, .int x5)]) (pc2 := 116) S dX9_canBe_114 (by decide) [1, 2, 3, 4, 0, 5] rfl rfl ?_
            obtain ⟨z17, ez17⟩ : ∃ y : Int32, y = x5 + (1 : Int32) := ⟨_, rfl⟩
            have hw := hw z17 ez17
            refine v_iinc (v := z17) (lv2 := [(0, .ref a0.1), (1, .int x1), (2, .int x2), (3, .int x3), (4, .int z16), (5, .int z17)]) (pc2 := 119) S 5 dX9_canBe_116 rfl (by rw [ez17]; rfl) (by decide) [1, 2, 3, 4, 5, 0] rfl rfl ?_
            refine v_goto (tgt := 79) S dX9_canBe_119 (by decide) ?_
            exact ih z16 z17 hw
          · have hw := hw.2 c15
            refine v_iconst (v := 1) (pc2 := 109) S dX9_canBe_108 (by decide) rfl ?_
            refine v_goto (tgt := 113) S dX9_canBe_109 (by decide) ?_
            refine v_iadd (pc2 := 114) S dX9_canBe_113 rfl ?_
            refine v_nm (fun z18 ez18 => ?_)
            have hw := hw z18 ez18
            refine v_istore (lv2 := [(0, .ref a0.1), (1, .int x1), (2, .int x2), (3, .int x3), (4, .int z18), (5, .int x5)]) (pc2 := 116) S dX9_canBe_114 (by decide) [1, 2, 3, 4, 0, 5] rfl rfl ?_
            obtain ⟨z19, ez19⟩ : ∃ y : Int32, y = x5 + (1 : Int32) := ⟨_, rfl⟩
            have hw := hw z19 ez19
            refine v_iinc (v := z19) (lv2 := [(0, .ref a0.1), (1, .int x1), (2, .int x2), (3, .int x3), (4, .int z18), (5, .int z19)]) (pc2 := 119) S 5 dX9_canBe_116 rfl (by rw [ez19]; rfl) (by decide) [1, 2, 3, 4, 5, 0] rfl rfl ?_
            refine v_goto (tgt := 79) S dX9_canBe_119 (by decide) ?_
            exact ih z18 z19 hw
  have L67 : ∀ (x1 : Int32) (kk : Nat) (x2 : Int32) (x3 : Int32), wp_X9_canBe_L67 v0 x1 Q kk x2 x3 → V p l e { frames := 2, cells := 0, slots := 0, locals := 44 } s m args below meth c G (va_A (wMod G a0 v0) s.heap.size) 6 0 0 (MQ below (EQ G (wMod G a0 v0) s.heap.size (PB (fun _ : Unit => wMod G a0 v0) (fun r _ => Q r))) args s 0 0 (va_A (wMod G a0 v0) s.heap.size)) (wMod G a0 v0) 67 [(0, .ref a0.1), (1, .int x1), (2, .int x2), (3, .int x3)] [] := by
    intro x1 kk
    induction kk with
    | zero => intro x2 x3 hw; exact hw.elim
    | succ n ih =>
      intro x2 x3 hw
      refine v_iload_n (pc2 := 68) S 3 dX9_canBe_67 rfl rfl rfl ?_
      refine v_bipush (v := 6) (pc2 := 70) S dX9_canBe_68 (by decide) rfl ?_
      refine v_icmp_ge (pc2 := 73) (tgt := 149) S dX9_canBe_70 (by decide) rfl (fun c2 => ?_) (fun c2 => ?_)
      · have hw := hw.1 c2
        refine v_iload_n (pc2 := 150) S 2 dX9_canBe_149 rfl rfl rfl ?_
        obtain ⟨hb, hw⟩ := hw
        exact v_zret S hb ⟨x2, (), rfl, hb, rfl, hw⟩ dX9_canBe_150
      · have hw := hw.2 c2
        refine v_iconst (v := 0) (pc2 := 74) S dX9_canBe_73 (by decide) rfl ?_
        refine v_istore (lv2 := [(0, .ref a0.1), (1, .int x1), (2, .int x2), (3, .int x3), (4, .int (0 : Int32))]) (pc2 := 76) S dX9_canBe_74 (by decide) [1, 2, 3, 4, 0] rfl rfl ?_
        refine v_iconst (v := 0) (pc2 := 77) S dX9_canBe_76 (by decide) rfl ?_
        refine v_istore (lv2 := [(0, .ref a0.1), (1, .int x1), (2, .int x2), (3, .int x3), (4, .int (0 : Int32)), (5, .int (0 : Int32))]) (pc2 := 79) S dX9_canBe_77 (by decide) [1, 2, 3, 4, 5, 0] rfl rfl ?_
        obtain ⟨kk, hw⟩ := hw
        exact L79 x1 x2 x3 (wp_X9_canBe_L67 v0 x1 Q n) ih kk (0 : Int32) (0 : Int32) hw
  have L13 : ∀ (x1 : Int32) (x3 : Int32) (K4 : Int32 → Int32 → Prop) (hK4 : ∀ (y0 : Int32) (y1 : Int32), K4 y0 y1 → V p l e { frames := 2, cells := 0, slots := 0, locals := 44 } s m args below meth c G (va_A (wMod G a0 v0) s.heap.size) 6 0 0 (MQ below (EQ G (wMod G a0 v0) s.heap.size (PB (fun _ : Unit => wMod G a0 v0) (fun r _ => Q r))) args s 0 0 (va_A (wMod G a0 v0) s.heap.size)) (wMod G a0 v0) 4 [(0, .ref a0.1), (1, .int x1), (2, .int y0), (3, .int y1)] []) (kk : Nat) (x2 : Int32) (x4 : Int32), wp_X9_canBe_L13 v0 x1 x3 Q K4 kk x2 x4 → V p l e { frames := 2, cells := 0, slots := 0, locals := 44 } s m args below meth c G (va_A (wMod G a0 v0) s.heap.size) 6 0 0 (MQ below (EQ G (wMod G a0 v0) s.heap.size (PB (fun _ : Unit => wMod G a0 v0) (fun r _ => Q r))) args s 0 0 (va_A (wMod G a0 v0) s.heap.size)) (wMod G a0 v0) 13 [(0, .ref a0.1), (1, .int x1), (2, .int x2), (3, .int x3), (4, .int x4)] [] := by
    intro x1 x3 K4 hK4 kk
    induction kk with
    | zero => intro x2 x4 hw; exact hw.elim
    | succ n ih =>
      intro x2 x4 hw
      refine v_iload (pc2 := 15) S 4 dX9_canBe_13 rfl rfl ?_
      refine v_bipush (v := 10) (pc2 := 17) S dX9_canBe_15 (by decide) rfl ?_
      refine v_icmp_ge (pc2 := 20) (tgt := 59) S dX9_canBe_17 (by decide) rfl (fun c20 => ?_) (fun c20 => ?_)
      · have hw := hw.1 c20
        obtain ⟨z21, ez21⟩ : ∃ y : Int32, y = x3 + (1 : Int32) := ⟨_, rfl⟩
        have hw := hw z21 ez21
        refine v_iinc (v := z21) (lv2 := [(0, .ref a0.1), (1, .int x1), (2, .int x2), (3, .int z21), (4, .int x4)]) (pc2 := 62) S 3 dX9_canBe_59 rfl (by rw [ez21]; rfl) (by decide) [1, 2, 3, 0, 4] rfl rfl ?_
        refine v_goto (tgt := 4) S dX9_canBe_62 (by decide) ?_
        refine v_lv [(0, .ref a0.1), (1, .int x1), (2, .int x2), (3, .int z21)] [0, 1, 2, 3] rfl ?_
        exact hK4 x2 z21 hw
      · have hw := hw.2 c20
        refine v_iload_n (pc2 := 21) S 2 dX9_canBe_20 rfl rfl rfl ?_
        refine v_if_eq (pc2 := 24) (tgt := 51) S dX9_canBe_21 (by decide) rfl (fun c22 => ?_) (fun c22 => ?_)
        · have hw := hw.1 c22
          refine v_iconst (v := 0) (pc2 := 52) S dX9_canBe_51 (by decide) rfl ?_
          refine v_istore_n (lv2 := [(0, .ref a0.1), (1, .int x1), (2, .int (0 : Int32)), (3, .int x3), (4, .int x4)]) (pc2 := 53) S dX9_canBe_52 rfl (by decide) [1, 2, 0, 3, 4] rfl rfl ?_
          obtain ⟨z23, ez23⟩ : ∃ y : Int32, y = x4 + (1 : Int32) := ⟨_, rfl⟩
          have hw := hw z23 ez23
          refine v_iinc (v := z23) (lv2 := [(0, .ref a0.1), (1, .int x1), (2, .int (0 : Int32)), (3, .int x3), (4, .int z23)]) (pc2 := 56) S 4 dX9_canBe_53 rfl (by rw [ez23]; rfl) (by decide) [1, 2, 3, 4, 0] rfl rfl ?_
          refine v_goto (tgt := 13) S dX9_canBe_56 (by decide) ?_
          exact ih (0 : Int32) z23 hw
        · have hw := hw.2 c22
          refine v_iload_n (pc2 := 25) S 1 dX9_canBe_24 rfl rfl rfl ?_
          refine v_iload_n (pc2 := 26) S 3 dX9_canBe_25 rfl rfl rfl ?_
          refine v_ishr (pc2 := 27) S dX9_canBe_26 rfl ?_
          refine v_iload_n (pc2 := 28) S 1 dX9_canBe_27 rfl rfl rfl ?_
          refine v_iload (pc2 := 30) S 4 dX9_canBe_28 rfl rfl ?_
          refine v_ishr (pc2 := 31) S dX9_canBe_30 rfl ?_
          refine v_iand (pc2 := 32) S dX9_canBe_31 rfl ?_
          refine v_iconst (v := 1) (pc2 := 33) S dX9_canBe_32 (by decide) rfl ?_
          refine v_iand (pc2 := 34) S dX9_canBe_33 rfl ?_
          refine v_if_eq (pc2 := 37) (tgt := 47) S dX9_canBe_34 (by decide) rfl (fun c24 => ?_) (fun c24 => ?_)
          · have hw := hw.1 c24
            refine v_iconst (v := 1) (pc2 := 48) S dX9_canBe_47 (by decide) rfl ?_
            refine v_goto (tgt := 52) S dX9_canBe_48 (by decide) ?_
            refine v_istore_n (lv2 := [(0, .ref a0.1), (1, .int x1), (2, .int (1 : Int32)), (3, .int x3), (4, .int x4)]) (pc2 := 53) S dX9_canBe_52 rfl (by decide) [1, 2, 0, 3, 4] rfl rfl ?_
            obtain ⟨z25, ez25⟩ : ∃ y : Int32, y = x4 + (1 : Int32) := ⟨_, rfl⟩
            have hw := hw z25 ez25
            refine v_iinc (v := z25) (lv2 := [(0, .ref a0.1), (1, .int x1), (2, .int (1 : Int32)), (3, .int x3), (4, .int z25)]) (pc2 := 56) S 4 dX9_canBe_53 rfl (by rw [ez25]; rfl) (by decide) [1, 2, 3, 4, 0] rfl rfl ?_
            refine v_goto (tgt := 13) S dX9_canBe_56 (by decide) ?_
            exact ih (1 : Int32) z25 hw
          · have hw := hw.2 c24
            refine v_aload_n (pc2 := 38) S 0 dX9_canBe_37 rfl rfl rfl ?_
            refine v_iload_n (pc2 := 39) S 3 dX9_canBe_38 rfl rfl rfl ?_
            refine v_iload (pc2 := 41) S 4 dX9_canBe_39 rfl rfl ?_
            refine v_callV (pc2 := 44) (As := [.int x3, .int x4]) (rest := []) S (c_X9_goesTo l G a0 v0 x3 x4 _ hw) mf_X9_goesTo u_856 u_858 u_24 0 9 rfl rfl rfl rfl ⟨rfl, rfl⟩ ⟨Nat.le_of_ble_eq_true rfl, Nat.le_of_ble_eq_true rfl⟩ ⟨Nat.le_of_ble_eq_true rfl, Nat.le_of_ble_eq_true rfl⟩ (Nat.le_of_ble_eq_true rfl) dX9_canBe_41 (frW _) rfl (pb (fun r26 u27 br26 hw => ?_))
            refine v_to (wMod G a0 v0) 44 [(0, .ref a0.1), (1, .int x1), (2, .int x2), (3, .int x3), (4, .int x4)] _ [.int r26] rfl rfl rfl rfl ?_
            refine v_if_ne (pc2 := 47) (tgt := 51) S dX9_canBe_44 (by decide) rfl (fun c28 => ?_) (fun c28 => ?_)
            · have hw := hw.1 c28
              refine v_iconst (v := 0) (pc2 := 52) S dX9_canBe_51 (by decide) rfl ?_
              refine v_istore_n (lv2 := [(0, .ref a0.1), (1, .int x1), (2, .int (0 : Int32)), (3, .int x3), (4, .int x4)]) (pc2 := 53) S dX9_canBe_52 rfl (by decide) [1, 2, 0, 3, 4] rfl rfl ?_
              obtain ⟨z29, ez29⟩ : ∃ y : Int32, y = x4 + (1 : Int32) := ⟨_, rfl⟩
              have hw := hw z29 ez29
              refine v_iinc (v := z29) (lv2 := [(0, .ref a0.1), (1, .int x1), (2, .int (0 : Int32)), (3, .int x3), (4, .int z29)]) (pc2 := 56) S 4 dX9_canBe_53 rfl (by rw [ez29]; rfl) (by decide) [1, 2, 3, 4, 0] rfl rfl ?_
              refine v_goto (tgt := 13) S dX9_canBe_56 (by decide) ?_
              exact ih (0 : Int32) z29 hw
            · have hw := hw.2 c28
              refine v_iconst (v := 1) (pc2 := 48) S dX9_canBe_47 (by decide) rfl ?_
              refine v_goto (tgt := 52) S dX9_canBe_48 (by decide) ?_
              refine v_istore_n (lv2 := [(0, .ref a0.1), (1, .int x1), (2, .int (1 : Int32)), (3, .int x3), (4, .int x4)]) (pc2 := 53) S dX9_canBe_52 rfl (by decide) [1, 2, 0, 3, 4] rfl rfl ?_
              obtain ⟨z30, ez30⟩ : ∃ y : Int32, y = x4 + (1 : Int32) := ⟨_, rfl⟩
              have hw := hw z30 ez30
              refine v_iinc (v := z30) (lv2 := [(0, .ref a0.1), (1, .int x1), (2, .int (1 : Int32)), (3, .int x3), (4, .int z30)]) (pc2 := 56) S 4 dX9_canBe_53 rfl (by rw [ez30]; rfl) (by decide) [1, 2, 3, 4, 0] rfl rfl ?_
              refine v_goto (tgt := 13) S dX9_canBe_56 (by decide) ?_
              exact ih (1 : Int32) z30 hw
  have L4 : ∀ (x1 : Int32) (kk : Nat) (x2 : Int32) (x3 : Int32), wp_X9_canBe_L4 v0 x1 Q kk x2 x3 → V p l e { frames := 2, cells := 0, slots := 0, locals := 44 } s m args below meth c G (va_A (wMod G a0 v0) s.heap.size) 6 0 0 (MQ below (EQ G (wMod G a0 v0) s.heap.size (PB (fun _ : Unit => wMod G a0 v0) (fun r _ => Q r))) args s 0 0 (va_A (wMod G a0 v0) s.heap.size)) (wMod G a0 v0) 4 [(0, .ref a0.1), (1, .int x1), (2, .int x2), (3, .int x3)] [] := by
    intro x1 kk
    induction kk with
    | zero => intro x2 x3 hw; exact hw.elim
    | succ n ih =>
      intro x2 x3 hw
      refine v_iload_n (pc2 := 5) S 3 dX9_canBe_4 rfl rfl rfl ?_
      refine v_bipush (v := 10) (pc2 := 7) S dX9_canBe_5 (by decide) rfl ?_
      refine v_icmp_ge (pc2 := 10) (tgt := 65) S dX9_canBe_7 (by decide) rfl (fun c1 => ?_) (fun c1 => ?_)
      · have hw := hw.1 c1
        refine v_iconst (v := 0) (pc2 := 66) S dX9_canBe_65 (by decide) rfl ?_
        refine v_istore_n (lv2 := [(0, .ref a0.1), (1, .int x1), (2, .int x2), (3, .int (0 : Int32))]) (pc2 := 67) S dX9_canBe_66 rfl (by decide) [1, 2, 3, 0] rfl rfl ?_
        obtain ⟨kk, hw⟩ := hw
        exact L67 x1 kk x2 (0 : Int32) hw
      · have hw := hw.2 c1
        refine v_iconst (v := 0) (pc2 := 11) S dX9_canBe_10 (by decide) rfl ?_
        refine v_istore (lv2 := [(0, .ref a0.1), (1, .int x1), (2, .int x2), (3, .int x3), (4, .int (0 : Int32))]) (pc2 := 13) S dX9_canBe_11 (by decide) [1, 2, 3, 4, 0] rfl rfl ?_
        obtain ⟨kk, hw⟩ := hw
        exact L13 x1 x3 (wp_X9_canBe_L4 v0 x1 Q n) ih kk x2 (0 : Int32) hw
  refine v_iconst (v := 1) (pc2 := 1) S dX9_canBe_0 (by decide) rfl ?_
  refine v_istore_n (lv2 := [(0, .ref a0.1), (1, .int i0), (2, .int (1 : Int32))]) (pc2 := 2) S dX9_canBe_1 rfl (by decide) [1, 2, 0] rfl rfl ?_
  refine v_iconst (v := 0) (pc2 := 3) S dX9_canBe_2 (by decide) rfl ?_
  refine v_istore_n (lv2 := [(0, .ref a0.1), (1, .int i0), (2, .int (1 : Int32)), (3, .int (0 : Int32))]) (pc2 := 4) S dX9_canBe_3 rfl (by decide) [1, 2, 3, 0] rfl rfl ?_
  obtain ⟨kk, hw⟩ := hw
  exact L4 i0 kk (1 : Int32) (0 : Int32) hw
set_option maxHeartbeats 4000000 in
set_option maxRecDepth 100000 in
theorem c_X9_can (l : Launch) (G : GG) (a0 : ModA) (v0 : ModV) (i0 : Int32) (Q : Int32 → Prop) (hw : wp_X9_can v0 i0 Q) : Con l G yX9_can cX9_can 2 (some .int) { frames := 3, cells := 0, slots := 0, locals := 69 } [.ref a0.1, .int i0] (wMod G a0 v0) (PI (fun _ : Unit => wMod G a0 v0) (fun r _ => Q r)) 0 0 := by
  refine con_of RX9 rfl (by decide) [(0, .ref a0.1), (1, .int i0)] rfl (Nat.le_of_ble_eq_true rfl) ?_
  intro p e s m args below meth c S hname
  refine v_iload_n (pc2 := 1) S 1 dX9_can_0 rfl rfl rfl ?_
  refine v_iconst (v := 0) (pc2 := 2) S dX9_can_1 (by decide) rfl ?_
  refine v_sipush (v := 1023) (pc2 := 5) S dX9_can_2 (by decide) rfl ?_
  refine v_callS (pc2 := 8) (As := [.int i0, .int (0 : Int32), .int (1023 : Int32)]) (rest := []) S (c_X9_in l G i0 (0 : Int32) (1023 : Int32) _ hw) mf_X9_in u_837 u_838 rfl rfl ⟨rfl, rfl⟩ ⟨Nat.le_of_ble_eq_true rfl, Nat.le_of_ble_eq_true rfl⟩ ⟨Nat.le_of_ble_eq_true rfl, Nat.le_of_ble_eq_true rfl⟩ (Nat.le_of_ble_eq_true rfl) dX9_can_5 (frM [] [] _) rfl (pb (fun r1 u2 br1 hw => ?_))
  refine v_to (wMod G a0 v0) 8 [(0, .ref a0.1), (1, .int i0)] _ [.int r1] rfl rfl rfl rfl ?_
  refine v_if_ne (pc2 := 11) (tgt := 15) S dX9_can_8 (by decide) rfl (fun c3 => ?_) (fun c3 => ?_)
  · have hw := hw.1 c3
    refine v_aload_n (pc2 := 16) S 0 dX9_can_15 rfl rfl rfl ?_
    refine v_iload_n (pc2 := 17) S 1 dX9_can_16 rfl rfl rfl ?_
    refine v_callV (pc2 := 20) (As := [.int i0]) (rest := []) S (c_X9_canBe l G a0 v0 i0 _ hw) mf_X9_canBe u_1045 u_1047 u_51 0 9 rfl rfl rfl rfl ⟨rfl, rfl⟩ ⟨Nat.le_of_ble_eq_true rfl, Nat.le_of_ble_eq_true rfl⟩ ⟨Nat.le_of_ble_eq_true rfl, Nat.le_of_ble_eq_true rfl⟩ (Nat.le_of_ble_eq_true rfl) dX9_can_17 (frW _) rfl (pb (fun r4 u5 br4 hw => ?_))
    refine v_to (wMod G a0 v0) 20 [(0, .ref a0.1), (1, .int i0)] _ [.int r4] rfl rfl rfl rfl ?_
    refine v_if_eq (pc2 := 23) (tgt := 27) S dX9_can_20 (by decide) rfl (fun c6 => ?_) (fun c6 => ?_)
    · have hw := hw.1 c6
      refine v_iconst (v := 0) (pc2 := 28) S dX9_can_27 (by decide) rfl ?_
      exact v_iret S ⟨(0 : Int32), (), rfl, rfl, hw⟩ dX9_can_28
    · have hw := hw.2 c6
      refine v_iconst (v := 1) (pc2 := 24) S dX9_can_23 (by decide) rfl ?_
      refine v_goto (tgt := 28) S dX9_can_24 (by decide) ?_
      exact v_iret S ⟨(1 : Int32), (), rfl, rfl, hw⟩ dX9_can_28
  · have hw := hw.2 c3
    refine v_iconst (v := -1) (pc2 := 12) S dX9_can_11 (by decide) rfl ?_
    refine v_goto (tgt := 28) S dX9_can_12 (by decide) ?_
    exact v_iret S ⟨(-1 : Int32), (), rfl, rfl, hw⟩ dX9_can_28
set_option maxHeartbeats 4000000 in
set_option maxRecDepth 100000 in
theorem c_X9_together (l : Launch) (G : GG) (a0 : ModA) (v0 : ModV) (i0 : Int32) (Q : Int32 → Prop) (hw : wp_X9_together v0 i0 Q) : Con l G yX9_together cX9_together 4 (some .int) { frames := 3, cells := 0, slots := 0, locals := 69 } [.ref a0.1, .int i0] (wMod G a0 v0) (PI (fun _ : Unit => wMod G a0 v0) (fun r _ => Q r)) 0 0 := by
  refine con_of RX9 rfl (by decide) [(0, .ref a0.1), (1, .int i0)] rfl (Nat.le_of_ble_eq_true rfl) ?_
  intro p e s m args below meth c S hname
  have L15 : ∀ (kk : Nat) (x2 : Int32) (x3 : Int32), wp_X9_together_L15 v0 Q kk x2 x3 → V p l e { frames := 3, cells := 0, slots := 0, locals := 69 } s m args below meth c G (va_A (wMod G a0 v0) s.heap.size) 4 0 0 (MQ below (EQ G (wMod G a0 v0) s.heap.size (PI (fun _ : Unit => wMod G a0 v0) (fun r _ => Q r))) args s 0 0 (va_A (wMod G a0 v0) s.heap.size)) (wMod G a0 v0) 15 [(0, .ref a0.1), (2, .int x2), (3, .int x3)] [] := by
    intro kk
    induction kk with
    | zero => intro x2 x3 hw; exact hw.elim
    | succ n ih =>
      intro x2 x3 hw
      refine v_iload_n (pc2 := 16) S 2 dX9_together_15 rfl rfl rfl ?_
      refine v_sipush (v := 1024) (pc2 := 19) S dX9_together_16 (by decide) rfl ?_
      refine v_icmp_ge (pc2 := 22) (tgt := 53) S dX9_together_19 (by decide) rfl (fun c4 => ?_) (fun c4 => ?_)
      · have hw := hw.1 c4
        refine v_iload_n (pc2 := 54) S 1 dX9_together_53 rfl rfl rfl ?_
        exact v_iret S ⟨x2, (), rfl, rfl, hw⟩ dX9_together_54
      · have hw := hw.2 c4
        refine v_iload_n (pc2 := 23) S 2 dX9_together_22 rfl rfl rfl ?_
        refine v_callS (pc2 := 26) (As := [.int x3]) (rest := []) S (c_X9_size l G x3 _ hw) mf_X9_size u_1026 u_1027 rfl rfl ⟨rfl, rfl⟩ ⟨Nat.le_of_ble_eq_true rfl, Nat.le_of_ble_eq_true rfl⟩ ⟨Nat.le_of_ble_eq_true rfl, Nat.le_of_ble_eq_true rfl⟩ (Nat.le_of_ble_eq_true rfl) dX9_together_23 (frM [] [] _) rfl (pi (fun r5 u6 hw => ?_))
        refine v_to (wMod G a0 v0) 26 [(0, .ref a0.1), (2, .int x2), (3, .int x3)] _ [.int r5] rfl rfl rfl rfl ?_
        refine v_iload_n (pc2 := 27) S 1 dX9_together_26 rfl rfl rfl ?_
        refine v_icmp_le (pc2 := 30) (tgt := 45) S dX9_together_27 (by decide) rfl (fun c7 => ?_) (fun c7 => ?_)
        · have hw := hw.1 c7
          refine v_iload_n (pc2 := 46) S 1 dX9_together_45 rfl rfl rfl ?_
          refine v_istore_n (lv2 := [(0, .ref a0.1), (2, .int x2), (3, .int x3)]) (pc2 := 47) S dX9_together_46 rfl (by decide) [1, 0, 2] rfl rfl ?_
          obtain ⟨z8, ez8⟩ : ∃ y : Int32, y = x3 + (1 : Int32) := ⟨_, rfl⟩
          have hw := hw z8 ez8
          refine v_iinc (v := z8) (lv2 := [(0, .ref a0.1), (2, .int x2), (3, .int z8)]) (pc2 := 50) S 2 dX9_together_47 rfl (by rw [ez8]; rfl) (by decide) [1, 2, 0] rfl rfl ?_
          refine v_goto (tgt := 15) S dX9_together_50 (by decide) ?_
          exact ih x2 z8 hw
        · have hw := hw.2 c7
          refine v_aload_n (pc2 := 31) S 0 dX9_together_30 rfl rfl rfl ?_
          refine v_iload_n (pc2 := 32) S 2 dX9_together_31 rfl rfl rfl ?_
          refine v_callV (pc2 := 35) (As := [.int x3]) (rest := []) S (c_X9_canBe l G a0 v0 x3 _ hw) mf_X9_canBe u_1045 u_1047 u_51 0 9 rfl rfl rfl rfl ⟨rfl, rfl⟩ ⟨Nat.le_of_ble_eq_true rfl, Nat.le_of_ble_eq_true rfl⟩ ⟨Nat.le_of_ble_eq_true rfl, Nat.le_of_ble_eq_true rfl⟩ (Nat.le_of_ble_eq_true rfl) dX9_together_32 (frW _) rfl (pb (fun r9 u10 br9 hw => ?_))
          refine v_to (wMod G a0 v0) 35 [(0, .ref a0.1), (2, .int x2), (3, .int x3)] _ [.int r9] rfl rfl rfl rfl ?_
          refine v_if_eq (pc2 := 38) (tgt := 45) S dX9_together_35 (by decide) rfl (fun c11 => ?_) (fun c11 => ?_)
          · have hw := hw.1 c11
            refine v_iload_n (pc2 := 46) S 1 dX9_together_45 rfl rfl rfl ?_
            refine v_istore_n (lv2 := [(0, .ref a0.1), (2, .int x2), (3, .int x3)]) (pc2 := 47) S dX9_together_46 rfl (by decide) [1, 0, 2] rfl rfl ?_
            obtain ⟨z12, ez12⟩ : ∃ y : Int32, y = x3 + (1 : Int32) := ⟨_, rfl⟩
            have hw := hw z12 ez12
            refine v_iinc (v := z12) (lv2 := [(0, .ref a0.1), (2, .int x2), (3, .int z12)]) (pc2 := 50) S 2 dX9_together_47 rfl (by rw [ez12]; rfl) (by decide) [1, 2, 0] rfl rfl ?_
            refine v_goto (tgt := 15) S dX9_together_50 (by decide) ?_
            exact ih x2 z12 hw
          · have hw := hw.2 c11
            refine v_iload_n (pc2 := 39) S 2 dX9_together_38 rfl rfl rfl ?_
            refine v_callS (pc2 := 42) (As := [.int x3]) (rest := []) S (c_X9_size l G x3 _ hw) mf_X9_size u_1026 u_1027 rfl rfl ⟨rfl, rfl⟩ ⟨Nat.le_of_ble_eq_true rfl, Nat.le_of_ble_eq_true rfl⟩ ⟨Nat.le_of_ble_eq_true rfl, Nat.le_of_ble_eq_true rfl⟩ (Nat.le_of_ble_eq_true rfl) dX9_together_39 (frM [] [] _) rfl (pi (fun r13 u14 hw => ?_))
            refine v_to (wMod G a0 v0) 42 [(0, .ref a0.1), (2, .int x2), (3, .int x3)] _ [.int r13] rfl rfl rfl rfl ?_
            refine v_goto (tgt := 46) S dX9_together_42 (by decide) ?_
            refine v_istore_n (lv2 := [(0, .ref a0.1), (2, .int r13), (3, .int x3)]) (pc2 := 47) S dX9_together_46 rfl (by decide) [1, 0, 2] rfl rfl ?_
            obtain ⟨z15, ez15⟩ : ∃ y : Int32, y = x3 + (1 : Int32) := ⟨_, rfl⟩
            have hw := hw z15 ez15
            refine v_iinc (v := z15) (lv2 := [(0, .ref a0.1), (2, .int r13), (3, .int z15)]) (pc2 := 50) S 2 dX9_together_47 rfl (by rw [ez15]; rfl) (by decide) [1, 2, 0] rfl rfl ?_
            refine v_goto (tgt := 15) S dX9_together_50 (by decide) ?_
            exact ih r13 z15 hw
  refine v_iload_n (pc2 := 1) S 1 dX9_together_0 rfl rfl rfl ?_
  refine v_iconst (v := 0) (pc2 := 2) S dX9_together_1 (by decide) rfl ?_
  refine v_iconst (v := 1) (pc2 := 3) S dX9_together_2 (by decide) rfl ?_
  refine v_callS (pc2 := 6) (As := [.int i0, .int (0 : Int32), .int (1 : Int32)]) (rest := []) S (c_X9_in l G i0 (0 : Int32) (1 : Int32) _ hw) mf_X9_in u_837 u_838 rfl rfl ⟨rfl, rfl⟩ ⟨Nat.le_of_ble_eq_true rfl, Nat.le_of_ble_eq_true rfl⟩ ⟨Nat.le_of_ble_eq_true rfl, Nat.le_of_ble_eq_true rfl⟩ (Nat.le_of_ble_eq_true rfl) dX9_together_3 (frM [] [] _) rfl (pb (fun r1 u2 br1 hw => ?_))
  refine v_to (wMod G a0 v0) 6 [(0, .ref a0.1), (1, .int i0)] _ [.int r1] rfl rfl rfl rfl ?_
  refine v_if_ne (pc2 := 9) (tgt := 11) S dX9_together_6 (by decide) rfl (fun c3 => ?_) (fun c3 => ?_)
  · have hw := hw.1 c3
    refine v_iconst (v := 0) (pc2 := 12) S dX9_together_11 (by decide) rfl ?_
    refine v_istore_n (lv2 := [(0, .ref a0.1), (1, .int i0), (2, .int (0 : Int32))]) (pc2 := 13) S dX9_together_12 rfl (by decide) [1, 2, 0] rfl rfl ?_
    refine v_iconst (v := 0) (pc2 := 14) S dX9_together_13 (by decide) rfl ?_
    refine v_istore_n (lv2 := [(0, .ref a0.1), (1, .int i0), (2, .int (0 : Int32)), (3, .int (0 : Int32))]) (pc2 := 15) S dX9_together_14 rfl (by decide) [1, 2, 3, 0] rfl rfl ?_
    refine v_lv [(0, .ref a0.1), (2, .int (0 : Int32)), (3, .int (0 : Int32))] [0, 2, 3] rfl ?_
    obtain ⟨kk, hw⟩ := hw
    exact L15 kk (0 : Int32) (0 : Int32) hw
  · have hw := hw.2 c3
    refine v_iconst (v := -1) (pc2 := 10) S dX9_together_9 (by decide) rfl ?_
    exact v_iret S ⟨(-1 : Int32), (), rfl, rfl, hw⟩ dX9_together_10
set_option maxHeartbeats 4000000 in
set_option maxRecDepth 100000 in
theorem c_X9_laySet (l : Launch) (G : GG) (a0 : ModA) (v0 : ModV) (i0 : Int32) (Q : ModV → Prop) (hw : wp_X9_laySet v0 i0 Q) : Con l G yX9_laySet cX9_laySet 3 none { frames := 1, cells := 0, slots := 0, locals := 23 } [.ref a0.1, .int i0] (wMod G a0 v0) (PV (fun u : ModV => wMod G a0 u) Q) 0 0 := by
  refine con_of RX9 rfl (by decide) [(0, .ref a0.1), (1, .int i0)] rfl (Nat.le_of_ble_eq_true rfl) ?_
  intro p e s m args below meth c S hname
  have L2 : ∀ (x1 : Int32) (kk : Nat) (x2 : Int32) (w0 : ModV), wp_X9_laySet_L2 x1 Q kk x2 w0 → V p l e { frames := 1, cells := 0, slots := 0, locals := 23 } s m args below meth c G (va_A (wMod G a0 v0) s.heap.size) 3 0 0 (MQ below (EQ G (wMod G a0 v0) s.heap.size (PV (fun u : ModV => wMod G a0 u) Q)) args s 0 0 (va_A (wMod G a0 v0) s.heap.size)) (wMod G a0 w0) 2 [(0, .ref a0.1), (1, .int x1), (2, .int x2)] [] := by
    intro x1 kk
    induction kk with
    | zero => intro x2 w0 hw; exact hw.elim
    | succ n ih =>
      intro x2 w0 hw
      refine v_iload_n (pc2 := 3) S 2 dX9_laySet_2 rfl rfl rfl ?_
      refine v_bipush (v := 10) (pc2 := 5) S dX9_laySet_3 (by decide) rfl ?_
      refine v_icmp_ge (pc2 := 8) (tgt := 25) S dX9_laySet_5 (by decide) rfl (fun c1 => ?_) (fun c1 => ?_)
      · have hw := hw.1 c1
        exact v_vret S ⟨w0, rfl, rfl, hw⟩ dX9_laySet_25
      · have hw := hw.2 c1
        refine v_aload_n (pc2 := 9) S 0 dX9_laySet_8 rfl rfl rfl ?_
        refine v_iload_n (pc2 := 10) S 2 dX9_laySet_9 rfl rfl rfl ?_
        refine v_iconst (v := 0) (pc2 := 11) S dX9_laySet_10 (by decide) rfl ?_
        refine v_iload_n (pc2 := 12) S 1 dX9_laySet_11 rfl rfl rfl ?_
        refine v_iload_n (pc2 := 13) S 2 dX9_laySet_12 rfl rfl rfl ?_
        refine v_ishr (pc2 := 14) S dX9_laySet_13 rfl ?_
        refine v_iconst (v := 1) (pc2 := 15) S dX9_laySet_14 (by decide) rfl ?_
        refine v_iand (pc2 := 16) S dX9_laySet_15 rfl ?_
        refine v_callV (pc2 := 19) (As := [.int x2, .int (0 : Int32), .int ((x1 >>> (x2 &&& 31)) &&& (1 : Int32))]) (rest := []) S (c_X9_lay l G a0 w0 x2 (0 : Int32) ((x1 >>> (x2 &&& 31)) &&& (1 : Int32)) _ hw) mf_X9_lay u_747 u_749 u_16 0 9 rfl rfl rfl rfl ⟨rfl, rfl⟩ ⟨Nat.le_of_ble_eq_true rfl, Nat.le_of_ble_eq_true rfl⟩ ⟨Nat.le_of_ble_eq_true rfl, Nat.le_of_ble_eq_true rfl⟩ (Nat.le_of_ble_eq_true rfl) dX9_laySet_16 (frW _) rfl (pv (fun u3 hw => ?_))
        refine v_to (wMod G a0 u3) 19 [(0, .ref a0.1), (1, .int x1), (2, .int x2)] _ [] rfl rfl rfl rfl ?_
        obtain ⟨z4, ez4⟩ : ∃ y : Int32, y = x2 + (1 : Int32) := ⟨_, rfl⟩
        have hw := hw z4 ez4
        refine v_iinc (v := z4) (lv2 := [(0, .ref a0.1), (1, .int x1), (2, .int z4)]) (pc2 := 22) S 2 dX9_laySet_19 rfl (by rw [ez4]; rfl) (by decide) [1, 2, 0] rfl rfl ?_
        refine v_goto (tgt := 2) S dX9_laySet_22 (by decide) ?_
        exact ih z4 u3 hw
  refine v_iconst (v := 0) (pc2 := 1) S dX9_laySet_0 (by decide) rfl ?_
  refine v_istore_n (lv2 := [(0, .ref a0.1), (1, .int i0), (2, .int (0 : Int32))]) (pc2 := 2) S dX9_laySet_1 rfl (by decide) [1, 2, 0] rfl rfl ?_
  obtain ⟨kk, hw⟩ := hw
  exact L2 i0 kk (0 : Int32) v0 hw
set_option maxHeartbeats 4000000 in
set_option maxRecDepth 100000 in
theorem c_X9_reach (l : Launch) (G : GG) (a0 : ModA) (v0 : ModV) (i0 : Int32) (i1 : Int32) (Q : ModV → Prop) (hw : wp_X9_reach v0 i0 i1 Q) : Con l G yX9_reach cX9_reach 3 none { frames := 0, cells := 0, slots := 0, locals := 0 } [.ref a0.1, .int i0, .int i1] (wMod G a0 v0) (PV (fun u : ModV => wMod G a0 u) Q) 0 0 := by
  refine con_of RX9 rfl (by decide) [(0, .ref a0.1), (1, .int i0), (2, .int i1)] rfl (Nat.le_of_ble_eq_true rfl) ?_
  intro p e s m args below meth c S hname
  refine v_aload_n (pc2 := 1) S 0 dX9_reach_0 rfl rfl rfl ?_
  refine v_get (v := .ref a0.2.2.2.2.2.2.2.1) (pc2 := 4) S gf_X9_38 0 rfl rfl dX9_reach_1 rfl ?_
  refine v_iload_n (pc2 := 5) S 1 dX9_reach_4 rfl rfl rfl ?_
  obtain ⟨h1, hw⟩ := hw
  refine v_iald (pc2 := 6) S 7 rfl h1 dX9_reach_5 rfl ?_
  refine v_bipush (v := -4) (pc2 := 8) S dX9_reach_6 (by decide) rfl ?_
  refine v_icmp_ne (pc2 := 11) (tgt := 38) S dX9_reach_8 (by decide) rfl (fun c2 => ?_) (fun c2 => ?_)
  · have hw := hw.1 c2
    exact v_vret S ⟨v0, rfl, rfl, hw⟩ dX9_reach_38
  · have hw := hw.2 c2
    refine v_aload_n (pc2 := 12) S 0 dX9_reach_11 rfl rfl rfl ?_
    refine v_get (v := .ref a0.2.2.2.2.2.2.2.1) (pc2 := 15) S gf_X9_38 0 rfl rfl dX9_reach_12 rfl ?_
    refine v_iload_n (pc2 := 16) S 1 dX9_reach_15 rfl rfl rfl ?_
    refine v_iload_n (pc2 := 17) S 2 dX9_reach_16 rfl rfl rfl ?_
    obtain ⟨h3, hw⟩ := hw
    obtain ⟨g4, eg4⟩ : ∃ y : Nat → Int32, y = upd v0.2.2.2.2.2.2.2.2.2.2.2.2.2.2.1 i0.toNatClampNeg i1 := ⟨_, rfl⟩
    have hw := hw g4 eg4
    refine v_iast (ws2 := wMod G a0 (v0.1, v0.2.1, v0.2.2.1, v0.2.2.2.1, v0.2.2.2.2.1, v0.2.2.2.2.2.1, v0.2.2.2.2.2.2.1, v0.2.2.2.2.2.2.2.1, v0.2.2.2.2.2.2.2.2.1, v0.2.2.2.2.2.2.2.2.2.1, v0.2.2.2.2.2.2.2.2.2.2.1, v0.2.2.2.2.2.2.2.2.2.2.2.1, v0.2.2.2.2.2.2.2.2.2.2.2.2.1, v0.2.2.2.2.2.2.2.2.2.2.2.2.2.1, g4, v0.2.2.2.2.2.2.2.2.2.2.2.2.2.2.2.1, v0.2.2.2.2.2.2.2.2.2.2.2.2.2.2.2.2)) (pc2 := 18) S 7 rfl h3 (by rw [eg4] <;> rfl) dX9_reach_17 rfl ?_
    refine v_aload_n (pc2 := 19) S 0 dX9_reach_18 rfl rfl rfl ?_
    refine v_get (v := .ref a0.2.2.2.2.2.2.2.2) (pc2 := 22) S gf_X9_41 0 rfl rfl dX9_reach_19 rfl ?_
    refine v_aload_n (pc2 := 23) S 0 dX9_reach_22 rfl rfl rfl ?_
    refine v_get (v := .int v0.2.2.2.2.2.2.2.2.2.2.2.2.2.2.2.2) (pc2 := 26) S gf_X9_197 0 rfl rfl dX9_reach_23 rfl ?_
    refine v_iload_n (pc2 := 27) S 1 dX9_reach_26 rfl rfl rfl ?_
    obtain ⟨h5, hw⟩ := hw
    obtain ⟨g6, eg6⟩ : ∃ y : Nat → Int32, y = upd v0.2.2.2.2.2.2.2.2.2.2.2.2.2.2.2.1 v0.2.2.2.2.2.2.2.2.2.2.2.2.2.2.2.2.toNatClampNeg i0 := ⟨_, rfl⟩
    have hw := hw g6 eg6
    refine v_iast (ws2 := wMod G a0 (v0.1, v0.2.1, v0.2.2.1, v0.2.2.2.1, v0.2.2.2.2.1, v0.2.2.2.2.2.1, v0.2.2.2.2.2.2.1, v0.2.2.2.2.2.2.2.1, v0.2.2.2.2.2.2.2.2.1, v0.2.2.2.2.2.2.2.2.2.1, v0.2.2.2.2.2.2.2.2.2.2.1, v0.2.2.2.2.2.2.2.2.2.2.2.1, v0.2.2.2.2.2.2.2.2.2.2.2.2.1, v0.2.2.2.2.2.2.2.2.2.2.2.2.2.1, g4, g6, v0.2.2.2.2.2.2.2.2.2.2.2.2.2.2.2.2)) (pc2 := 28) S 8 rfl h5 (by rw [eg6] <;> rfl) dX9_reach_27 rfl ?_
    refine v_aload_n (pc2 := 29) S 0 dX9_reach_28 rfl rfl rfl ?_
    refine v_dup (pc2 := 30) S dX9_reach_29 rfl rfl ?_
    refine v_get (v := .int v0.2.2.2.2.2.2.2.2.2.2.2.2.2.2.2.2) (pc2 := 33) S gf_X9_197 0 rfl rfl dX9_reach_30 rfl ?_
    refine v_iconst (v := 1) (pc2 := 34) S dX9_reach_33 (by decide) rfl ?_
    refine v_iadd (pc2 := 35) S dX9_reach_34 rfl ?_
    refine v_nm (fun z7 ez7 => ?_)
    have hw := hw z7 ez7
    refine v_put (ws2 := wMod G a0 (v0.1, v0.2.1, v0.2.2.1, v0.2.2.2.1, v0.2.2.2.2.1, v0.2.2.2.2.2.1, v0.2.2.2.2.2.2.1, v0.2.2.2.2.2.2.2.1, v0.2.2.2.2.2.2.2.2.1, v0.2.2.2.2.2.2.2.2.2.1, v0.2.2.2.2.2.2.2.2.2.2.1, v0.2.2.2.2.2.2.2.2.2.2.2.1, v0.2.2.2.2.2.2.2.2.2.2.2.2.1, v0.2.2.2.2.2.2.2.2.2.2.2.2.2.1, g4, g6, z7)) (pc2 := 38) S gf_X9_197 pf_X9_16 0 rfl rfl rfl (Nat.le_of_ble_eq_true rfl) rfl dX9_reach_35 rfl ?_
    exact v_vret S ⟨(v0.1, v0.2.1, v0.2.2.1, v0.2.2.2.1, v0.2.2.2.2.1, v0.2.2.2.2.2.1, v0.2.2.2.2.2.2.1, v0.2.2.2.2.2.2.2.1, v0.2.2.2.2.2.2.2.2.1, v0.2.2.2.2.2.2.2.2.2.1, v0.2.2.2.2.2.2.2.2.2.2.1, v0.2.2.2.2.2.2.2.2.2.2.2.1, v0.2.2.2.2.2.2.2.2.2.2.2.2.1, v0.2.2.2.2.2.2.2.2.2.2.2.2.2.1, g4, g6, z7), rfl, rfl, hw⟩ dX9_reach_38
set_option maxHeartbeats 4000000 in
set_option maxRecDepth 100000 in
theorem c_X9_goOn (l : Launch) (G : GG) (a0 : ModA) (v0 : ModV) (i0 : Int32) (i1 : Int32) (Q : ModV → Prop) (hw : wp_X9_goOn v0 i0 i1 Q) : Con l G yX9_goOn cX9_goOn 6 none { frames := 4, cells := 0, slots := 0, locals := 91 } [.ref a0.1, .int i0, .int i1] (wMod G a0 v0) (PV (fun u : ModV => wMod G a0 u) Q) 0 0 := by
  refine con_of RX9 rfl (by decide) [(0, .ref a0.1), (1, .int i0), (2, .int i1)] rfl (Nat.le_of_ble_eq_true rfl) ?_
  intro p e s m args below meth c S hname
  have B95 : ∀ (x1 : Int32) (x2 : Int32) (x3 : Int32) (x4 : Int32) (x5 : Int32) (w0 : ModV) (K16 : Int32 → ModV → Prop) (hK16 : ∀ (y0 : Int32) (y1 : ModV), K16 y0 y1 → V p l e { frames := 4, cells := 0, slots := 0, locals := 91 } s m args below meth c G (va_A (wMod G a0 v0) s.heap.size) 6 0 0 (MQ below (EQ G (wMod G a0 v0) s.heap.size (PV (fun u : ModV => wMod G a0 u) Q)) args s 0 0 (va_A (wMod G a0 v0) s.heap.size)) (wMod G a0 y1) 16 [(0, .ref a0.1), (1, .int x1), (2, .int x2), (3, .int x3), (4, .int x4), (5, .int y0)] []), wp_X9_goOn_B95 x1 x2 x3 x4 x5 w0 Q K16 → V p l e { frames := 4, cells := 0, slots := 0, locals := 91 } s m args below meth c G (va_A (wMod G a0 v0) s.heap.size) 6 0 0 (MQ below (EQ G (wMod G a0 v0) s.heap.size (PV (fun u : ModV => wMod G a0 u) Q)) args s 0 0 (va_A (wMod G a0 v0) s.heap.size)) (wMod G a0 w0) 95 [(0, .ref a0.1), (1, .int x1), (2, .int x2), (3, .int x3), (4, .int x4), (5, .int x5)] [] := by
    intro x1 x2 x3 x4 x5 w0 K16 hK16 hw
    refine v_aload_n (pc2 := 96) S 0 dX9_goOn_95 rfl rfl rfl ?_
    refine v_iload (pc2 := 98) S 5 dX9_goOn_96 rfl rfl ?_
    refine v_iload_n (pc2 := 99) S 3 dX9_goOn_98 rfl rfl rfl ?_
    refine v_callV (pc2 := 102) (As := [.int x5, .int x3]) (rest := []) S (c_X9_joins l G a0 w0 x5 x3 _ hw) mf_X9_joins u_876 u_878 u_29 0 9 rfl rfl rfl rfl ⟨rfl, rfl⟩ ⟨Nat.le_of_ble_eq_true rfl, Nat.le_of_ble_eq_true rfl⟩ ⟨Nat.le_of_ble_eq_true rfl, Nat.le_of_ble_eq_true rfl⟩ (Nat.le_of_ble_eq_true rfl) dX9_goOn_99 (frW _) rfl (pb (fun r9 u10 br9 hw => ?_))
    refine v_to (wMod G a0 w0) 102 [(0, .ref a0.1), (1, .int x1), (2, .int x2), (3, .int x3), (4, .int x4), (5, .int x5)] _ [.int r9] rfl rfl rfl rfl ?_
    refine v_if_eq (pc2 := 105) (tgt := 153) S dX9_goOn_102 (by decide) rfl (fun c11 => ?_) (fun c11 => ?_)
    · have hw := hw.1 c11
      obtain ⟨z12, ez12⟩ : ∃ y : Int32, y = x5 + (1 : Int32) := ⟨_, rfl⟩
      have hw := hw z12 ez12
      refine v_iinc (v := z12) (lv2 := [(0, .ref a0.1), (1, .int x1), (2, .int x2), (3, .int x3), (4, .int x4), (5, .int z12)]) (pc2 := 156) S 5 dX9_goOn_153 rfl (by rw [ez12]; rfl) (by decide) [1, 2, 3, 4, 5, 0] rfl rfl ?_
      refine v_goto (tgt := 16) S dX9_goOn_156 (by decide) ?_
      exact hK16 z12 w0 hw
    · have hw := hw.2 c11
      refine v_aload_n (pc2 := 106) S 0 dX9_goOn_105 rfl rfl rfl ?_
      refine v_iload_n (pc2 := 107) S 1 dX9_goOn_106 rfl rfl rfl ?_
      refine v_iload (pc2 := 109) S 5 dX9_goOn_107 rfl rfl ?_
      refine v_callV (pc2 := 112) (As := [.int x1, .int x5]) (rest := []) S (c_X9_hasKey l G a0 w0 x1 x5 _ hw) mf_X9_hasKey u_911 u_913 u_35 0 9 rfl rfl rfl rfl ⟨rfl, rfl⟩ ⟨Nat.le_of_ble_eq_true rfl, Nat.le_of_ble_eq_true rfl⟩ ⟨Nat.le_of_ble_eq_true rfl, Nat.le_of_ble_eq_true rfl⟩ (Nat.le_of_ble_eq_true rfl) dX9_goOn_109 (frW _) rfl (pb (fun r13 u14 br13 hw => ?_))
      refine v_to (wMod G a0 w0) 112 [(0, .ref a0.1), (1, .int x1), (2, .int x2), (3, .int x3), (4, .int x4), (5, .int x5)] _ [.int r13] rfl rfl rfl rfl ?_
      refine v_if_eq (pc2 := 115) (tgt := 153) S dX9_goOn_112 (by decide) rfl (fun c15 => ?_) (fun c15 => ?_)
      · have hw := hw.1 c15
        obtain ⟨z16, ez16⟩ : ∃ y : Int32, y = x5 + (1 : Int32) := ⟨_, rfl⟩
        have hw := hw z16 ez16
        refine v_iinc (v := z16) (lv2 := [(0, .ref a0.1), (1, .int x1), (2, .int x2), (3, .int x3), (4, .int x4), (5, .int z16)]) (pc2 := 156) S 5 dX9_goOn_153 rfl (by rw [ez16]; rfl) (by decide) [1, 2, 3, 4, 5, 0] rfl rfl ?_
        refine v_goto (tgt := 16) S dX9_goOn_156 (by decide) ?_
        exact hK16 z16 w0 hw
      · have hw := hw.2 c15
        refine v_aload_n (pc2 := 116) S 0 dX9_goOn_115 rfl rfl rfl ?_
        refine v_iload (pc2 := 118) S 5 dX9_goOn_116 rfl rfl ?_
        refine v_callV (pc2 := 121) (As := [.int x5]) (rest := []) S (c_X9_reason l G a0 w0 x5 _ hw) mf_X9_reason u_844 u_846 u_21 0 9 rfl rfl rfl rfl ⟨rfl, rfl⟩ ⟨Nat.le_of_ble_eq_true rfl, Nat.le_of_ble_eq_true rfl⟩ ⟨Nat.le_of_ble_eq_true rfl, Nat.le_of_ble_eq_true rfl⟩ (Nat.le_of_ble_eq_true rfl) dX9_goOn_118 (frW _) rfl (pi (fun r17 u18 hw => ?_))
        refine v_to (wMod G a0 w0) 121 [(0, .ref a0.1), (1, .int x1), (2, .int x2), (3, .int x3), (4, .int x4), (5, .int x5)] _ [.int r17] rfl rfl rfl rfl ?_
        refine v_if_ne (pc2 := 124) (tgt := 153) S dX9_goOn_121 (by decide) rfl (fun c19 => ?_) (fun c19 => ?_)
        · have hw := hw.1 c19
          obtain ⟨z20, ez20⟩ : ∃ y : Int32, y = x5 + (1 : Int32) := ⟨_, rfl⟩
          have hw := hw z20 ez20
          refine v_iinc (v := z20) (lv2 := [(0, .ref a0.1), (1, .int x1), (2, .int x2), (3, .int x3), (4, .int x4), (5, .int z20)]) (pc2 := 156) S 5 dX9_goOn_153 rfl (by rw [ez20]; rfl) (by decide) [1, 2, 3, 4, 5, 0] rfl rfl ?_
          refine v_goto (tgt := 16) S dX9_goOn_156 (by decide) ?_
          exact hK16 z20 w0 hw
        · have hw := hw.2 c19
          refine v_aload_n (pc2 := 125) S 0 dX9_goOn_124 rfl rfl rfl ?_
          refine v_iload (pc2 := 127) S 5 dX9_goOn_125 rfl rfl ?_
          refine v_callV (pc2 := 130) (As := [.int x5]) (rest := []) S (c_X9_opens l G a0 w0 x5 _ hw) mf_X9_opens u_864 u_866 u_26 0 9 rfl rfl rfl rfl ⟨rfl, rfl⟩ ⟨Nat.le_of_ble_eq_true rfl, Nat.le_of_ble_eq_true rfl⟩ ⟨Nat.le_of_ble_eq_true rfl, Nat.le_of_ble_eq_true rfl⟩ (Nat.le_of_ble_eq_true rfl) dX9_goOn_127 (frW _) rfl (pi (fun r21 u22 hw => ?_))
          refine v_to (wMod G a0 u22) 130 [(0, .ref a0.1), (1, .int x1), (2, .int x2), (3, .int x3), (4, .int x4), (5, .int x5)] _ [.int r21] rfl rfl rfl rfl ?_
          refine v_pop (pc2 := 131) S dX9_goOn_130 rfl rfl ?_
          refine v_aload_n (pc2 := 132) S 0 dX9_goOn_131 rfl rfl rfl ?_
          refine v_sipush (v := 1024) (pc2 := 135) S dX9_goOn_132 (by decide) rfl ?_
          refine v_iload_n (pc2 := 136) S 3 dX9_goOn_135 rfl rfl rfl ?_
          refine v_imul (pc2 := 137) S dX9_goOn_136 rfl ?_
          refine v_aload_n (pc2 := 138) S 0 dX9_goOn_137 rfl rfl rfl ?_
          refine v_callV (pc2 := 141) (As := []) (rest := [.int ((1024 : Int32) * x3), .ref a0.1]) S (c_X9_openSet l G a0 u22 _ hw) mf_X9_openSet u_814 u_816 u_17 0 9 rfl rfl rfl rfl ⟨rfl, rfl⟩ ⟨Nat.le_of_ble_eq_true rfl, Nat.le_of_ble_eq_true rfl⟩ ⟨Nat.le_of_ble_eq_true rfl, Nat.le_of_ble_eq_true rfl⟩ (Nat.le_of_ble_eq_true rfl) dX9_goOn_138 (frW _) rfl (pi (fun r23 u24 hw => ?_))
          refine v_to (wMod G a0 u22) 141 [(0, .ref a0.1), (1, .int x1), (2, .int x2), (3, .int x3), (4, .int x4), (5, .int x5)] _ [.int r23, .int ((1024 : Int32) * x3), .ref a0.1] rfl rfl rfl rfl ?_
          refine v_iadd (pc2 := 142) S dX9_goOn_141 rfl ?_
          refine v_aload_n (pc2 := 143) S 0 dX9_goOn_142 rfl rfl rfl ?_
          refine v_get (v := .ref a0.2.2.2.2.2.2.2.1) (pc2 := 146) S gf_X9_38 0 rfl rfl dX9_goOn_143 rfl ?_
          refine v_iload_n (pc2 := 147) S 2 dX9_goOn_146 rfl rfl rfl ?_
          obtain ⟨h25, hw⟩ := hw
          refine v_iald (pc2 := 148) S 7 rfl h25 dX9_goOn_147 rfl ?_
          refine v_iconst (v := 1) (pc2 := 149) S dX9_goOn_148 (by decide) rfl ?_
          refine v_iadd (pc2 := 150) S dX9_goOn_149 rfl ?_
          refine v_callV (pc2 := 153) (As := [.int (((1024 : Int32) * x3) + r23), .int ((u22.2.2.2.2.2.2.2.2.2.2.2.2.2.2.1 x2.toNatClampNeg) + (1 : Int32))]) (rest := []) S (c_X9_reach l G a0 u22 (((1024 : Int32) * x3) + r23) ((u22.2.2.2.2.2.2.2.2.2.2.2.2.2.2.1 x2.toNatClampNeg) + (1 : Int32)) _ hw) mf_X9_reach u_1057 u_1059 u_52 0 9 rfl rfl rfl rfl ⟨rfl, rfl⟩ ⟨Nat.le_of_ble_eq_true rfl, Nat.le_of_ble_eq_true rfl⟩ ⟨Nat.le_of_ble_eq_true rfl, Nat.le_of_ble_eq_true rfl⟩ (Nat.le_of_ble_eq_true rfl) dX9_goOn_150 (frW _) rfl (pv (fun u27 hw => ?_))
          refine v_to (wMod G a0 u27) 153 [(0, .ref a0.1), (1, .int x1), (2, .int x2), (3, .int x3), (4, .int x4), (5, .int x5)] _ [] rfl rfl rfl rfl ?_
          obtain ⟨z28, ez28⟩ : ∃ y : Int32, y = x5 + (1 : Int32) := ⟨_, rfl⟩
          have hw := hw z28 ez28
          refine v_iinc (v := z28) (lv2 := [(0, .ref a0.1), (1, .int x1), (2, .int x2), (3, .int x3), (4, .int x4), (5, .int z28)]) (pc2 := 156) S 5 dX9_goOn_153 rfl (by rw [ez28]; rfl) (by decide) [1, 2, 3, 4, 5, 0] rfl rfl ?_
          refine v_goto (tgt := 16) S dX9_goOn_156 (by decide) ?_
          exact hK16 z28 u27 hw
  have L16 : ∀ (x1 : Int32) (x2 : Int32) (x3 : Int32) (x4 : Int32) (kk : Nat) (x5 : Int32) (w0 : ModV), wp_X9_goOn_L16 x1 x2 x3 x4 Q kk x5 w0 → V p l e { frames := 4, cells := 0, slots := 0, locals := 91 } s m args below meth c G (va_A (wMod G a0 v0) s.heap.size) 6 0 0 (MQ below (EQ G (wMod G a0 v0) s.heap.size (PV (fun u : ModV => wMod G a0 u) Q)) args s 0 0 (va_A (wMod G a0 v0) s.heap.size)) (wMod G a0 w0) 16 [(0, .ref a0.1), (1, .int x1), (2, .int x2), (3, .int x3), (4, .int x4), (5, .int x5)] [] := by
    intro x1 x2 x3 x4 kk
    induction kk with
    | zero => intro x5 w0 hw; exact hw.elim
    | succ n ih =>
      intro x5 w0 hw
      refine v_iload (pc2 := 18) S 5 dX9_goOn_16 rfl rfl ?_
      refine v_bipush (v := 10) (pc2 := 20) S dX9_goOn_18 (by decide) rfl ?_
      refine v_icmp_ge (pc2 := 23) (tgt := 159) S dX9_goOn_20 (by decide) rfl (fun c3 => ?_) (fun c3 => ?_)
      · have hw := hw.1 c3
        exact v_vret S ⟨w0, rfl, rfl, hw⟩ dX9_goOn_159
      · have hw := hw.2 c3
        refine v_aload_n (pc2 := 24) S 0 dX9_goOn_23 rfl rfl rfl ?_
        refine v_iload (pc2 := 26) S 4 dX9_goOn_24 rfl rfl ?_
        refine v_callV (pc2 := 29) (As := [.int x4]) (rest := []) S (c_X9_laySet l G a0 w0 x4 _ hw) mf_X9_laySet u_1065 u_1067 u_54 0 9 rfl rfl rfl rfl ⟨rfl, rfl⟩ ⟨Nat.le_of_ble_eq_true rfl, Nat.le_of_ble_eq_true rfl⟩ ⟨Nat.le_of_ble_eq_true rfl, Nat.le_of_ble_eq_true rfl⟩ (Nat.le_of_ble_eq_true rfl) dX9_goOn_26 (frW _) rfl (pv (fun u5 hw => ?_))
        refine v_to (wMod G a0 u5) 29 [(0, .ref a0.1), (1, .int x1), (2, .int x2), (3, .int x3), (4, .int x4), (5, .int x5)] _ [] rfl rfl rfl rfl ?_
        refine v_aload_n (pc2 := 30) S 0 dX9_goOn_29 rfl rfl rfl ?_
        refine v_iload (pc2 := 32) S 5 dX9_goOn_30 rfl rfl ?_
        refine v_iload_n (pc2 := 33) S 3 dX9_goOn_32 rfl rfl rfl ?_
        refine v_callV (pc2 := 36) (As := [.int x5, .int x3]) (rest := []) S (c_X9_joins l G a0 u5 x5 x3 _ hw) mf_X9_joins u_876 u_878 u_29 0 9 rfl rfl rfl rfl ⟨rfl, rfl⟩ ⟨Nat.le_of_ble_eq_true rfl, Nat.le_of_ble_eq_true rfl⟩ ⟨Nat.le_of_ble_eq_true rfl, Nat.le_of_ble_eq_true rfl⟩ (Nat.le_of_ble_eq_true rfl) dX9_goOn_33 (frW _) rfl (pb (fun r6 u7 br6 hw => ?_))
        refine v_to (wMod G a0 u5) 36 [(0, .ref a0.1), (1, .int x1), (2, .int x2), (3, .int x3), (4, .int x4), (5, .int x5)] _ [.int r6] rfl rfl rfl rfl ?_
        refine v_if_eq (pc2 := 39) (tgt := 95) S dX9_goOn_36 (by decide) rfl (fun c8 => ?_) (fun c8 => ?_)
        · have hw := hw.1 c8
          exact B95 x1 x2 x3 x4 x5 u5 (wp_X9_goOn_L16 x1 x2 x3 x4 Q n) ih hw
        · have hw := hw.2 c8
          refine v_aload_n (pc2 := 40) S 0 dX9_goOn_39 rfl rfl rfl ?_
          refine v_iload (pc2 := 42) S 5 dX9_goOn_40 rfl rfl ?_
          refine v_callV (pc2 := 45) (As := [.int x5]) (rest := []) S (c_X9_isOpen l G a0 u5 x5 _ hw) mf_X9_isOpen u_848 u_850 u_22 0 9 rfl rfl rfl rfl ⟨rfl, rfl⟩ ⟨Nat.le_of_ble_eq_true rfl, Nat.le_of_ble_eq_true rfl⟩ ⟨Nat.le_of_ble_eq_true rfl, Nat.le_of_ble_eq_true rfl⟩ (Nat.le_of_ble_eq_true rfl) dX9_goOn_42 (frW _) rfl (pb (fun r29 u30 br29 hw => ?_))
          refine v_to (wMod G a0 u5) 45 [(0, .ref a0.1), (1, .int x1), (2, .int x2), (3, .int x3), (4, .int x4), (5, .int x5)] _ [.int r29] rfl rfl rfl rfl ?_
          refine v_if_eq (pc2 := 48) (tgt := 95) S dX9_goOn_45 (by decide) rfl (fun c31 => ?_) (fun c31 => ?_)
          · have hw := hw.1 c31
            exact B95 x1 x2 x3 x4 x5 u5 (wp_X9_goOn_L16 x1 x2 x3 x4 Q n) ih hw
          · have hw := hw.2 c31
            refine v_aload_n (pc2 := 49) S 0 dX9_goOn_48 rfl rfl rfl ?_
            refine v_sipush (v := 1024) (pc2 := 52) S dX9_goOn_49 (by decide) rfl ?_
            refine v_aload_n (pc2 := 53) S 0 dX9_goOn_52 rfl rfl rfl ?_
            refine v_iload (pc2 := 55) S 5 dX9_goOn_53 rfl rfl ?_
            refine v_iload_n (pc2 := 56) S 3 dX9_goOn_55 rfl rfl rfl ?_
            refine v_callV (pc2 := 59) (As := [.int x5, .int x3]) (rest := [.int (1024 : Int32), .ref a0.1]) S (c_X9_across l G a0 u5 x5 x3 _ hw) mf_X9_across u_931 u_933 u_38 0 9 rfl rfl rfl rfl ⟨rfl, rfl⟩ ⟨Nat.le_of_ble_eq_true rfl, Nat.le_of_ble_eq_true rfl⟩ ⟨Nat.le_of_ble_eq_true rfl, Nat.le_of_ble_eq_true rfl⟩ (Nat.le_of_ble_eq_true rfl) dX9_goOn_56 (frW _) rfl (pi (fun r32 u33 hw => ?_))
            refine v_to (wMod G a0 u5) 59 [(0, .ref a0.1), (1, .int x1), (2, .int x2), (3, .int x3), (4, .int x4), (5, .int x5)] _ [.int r32, .int (1024 : Int32), .ref a0.1] rfl rfl rfl rfl ?_
            refine v_imul (pc2 := 60) S dX9_goOn_59 rfl ?_
            refine v_iload (pc2 := 62) S 4 dX9_goOn_60 rfl rfl ?_
            refine v_iadd (pc2 := 63) S dX9_goOn_62 rfl ?_
            refine v_aload_n (pc2 := 64) S 0 dX9_goOn_63 rfl rfl rfl ?_
            refine v_get (v := .ref a0.2.2.2.2.2.2.2.1) (pc2 := 67) S gf_X9_38 0 rfl rfl dX9_goOn_64 rfl ?_
            refine v_iload_n (pc2 := 68) S 2 dX9_goOn_67 rfl rfl rfl ?_
            obtain ⟨h34, hw⟩ := hw
            refine v_iald (pc2 := 69) S 7 rfl h34 dX9_goOn_68 rfl ?_
            refine v_iconst (v := 1) (pc2 := 70) S dX9_goOn_69 (by decide) rfl ?_
            refine v_iadd (pc2 := 71) S dX9_goOn_70 rfl ?_
            refine v_callV (pc2 := 74) (As := [.int (((1024 : Int32) * r32) + x4), .int ((u5.2.2.2.2.2.2.2.2.2.2.2.2.2.2.1 x2.toNatClampNeg) + (1 : Int32))]) (rest := []) S (c_X9_reach l G a0 u5 (((1024 : Int32) * r32) + x4) ((u5.2.2.2.2.2.2.2.2.2.2.2.2.2.2.1 x2.toNatClampNeg) + (1 : Int32)) _ hw) mf_X9_reach u_1057 u_1059 u_52 0 9 rfl rfl rfl rfl ⟨rfl, rfl⟩ ⟨Nat.le_of_ble_eq_true rfl, Nat.le_of_ble_eq_true rfl⟩ ⟨Nat.le_of_ble_eq_true rfl, Nat.le_of_ble_eq_true rfl⟩ (Nat.le_of_ble_eq_true rfl) dX9_goOn_71 (frW _) rfl (pv (fun u36 hw => ?_))
            refine v_to (wMod G a0 u36) 74 [(0, .ref a0.1), (1, .int x1), (2, .int x2), (3, .int x3), (4, .int x4), (5, .int x5)] _ [] rfl rfl rfl rfl ?_
            refine v_aload_n (pc2 := 75) S 0 dX9_goOn_74 rfl rfl rfl ?_
            refine v_iload_n (pc2 := 76) S 2 dX9_goOn_75 rfl rfl rfl ?_
            refine v_iconst (v := 1) (pc2 := 77) S dX9_goOn_76 (by decide) rfl ?_
            refine v_iload (pc2 := 79) S 5 dX9_goOn_77 rfl rfl ?_
            refine v_ishl (pc2 := 80) S dX9_goOn_79 rfl ?_
            refine v_isub (pc2 := 81) S dX9_goOn_80 rfl ?_
            refine v_aload_n (pc2 := 82) S 0 dX9_goOn_81 rfl rfl rfl ?_
            refine v_get (v := .ref a0.2.2.2.2.2.2.2.1) (pc2 := 85) S gf_X9_38 0 rfl rfl dX9_goOn_82 rfl ?_
            refine v_iload_n (pc2 := 86) S 2 dX9_goOn_85 rfl rfl rfl ?_
            obtain ⟨h37, hw⟩ := hw
            refine v_iald (pc2 := 87) S 7 rfl h37 dX9_goOn_86 rfl ?_
            refine v_iconst (v := 1) (pc2 := 88) S dX9_goOn_87 (by decide) rfl ?_
            refine v_iadd (pc2 := 89) S dX9_goOn_88 rfl ?_
            refine v_callV (pc2 := 92) (As := [.int (x2 - ((1 : Int32) <<< (x5 &&& 31))), .int ((u36.2.2.2.2.2.2.2.2.2.2.2.2.2.2.1 x2.toNatClampNeg) + (1 : Int32))]) (rest := []) S (c_X9_reach l G a0 u36 (x2 - ((1 : Int32) <<< (x5 &&& 31))) ((u36.2.2.2.2.2.2.2.2.2.2.2.2.2.2.1 x2.toNatClampNeg) + (1 : Int32)) _ hw) mf_X9_reach u_1057 u_1059 u_52 0 9 rfl rfl rfl rfl ⟨rfl, rfl⟩ ⟨Nat.le_of_ble_eq_true rfl, Nat.le_of_ble_eq_true rfl⟩ ⟨Nat.le_of_ble_eq_true rfl, Nat.le_of_ble_eq_true rfl⟩ (Nat.le_of_ble_eq_true rfl) dX9_goOn_89 (frW _) rfl (pv (fun u39 hw => ?_))
            refine v_to (wMod G a0 u39) 92 [(0, .ref a0.1), (1, .int x1), (2, .int x2), (3, .int x3), (4, .int x4), (5, .int x5)] _ [] rfl rfl rfl rfl ?_
            refine v_goto (tgt := 153) S dX9_goOn_92 (by decide) ?_
            obtain ⟨z40, ez40⟩ : ∃ y : Int32, y = x5 + (1 : Int32) := ⟨_, rfl⟩
            have hw := hw z40 ez40
            refine v_iinc (v := z40) (lv2 := [(0, .ref a0.1), (1, .int x1), (2, .int x2), (3, .int x3), (4, .int x4), (5, .int z40)]) (pc2 := 156) S 5 dX9_goOn_153 rfl (by rw [ez40]; rfl) (by decide) [1, 2, 3, 4, 5, 0] rfl rfl ?_
            refine v_goto (tgt := 16) S dX9_goOn_156 (by decide) ?_
            exact ih z40 u39 hw
  refine v_iload_n (pc2 := 1) S 2 dX9_goOn_0 rfl rfl rfl ?_
  refine v_sipush (v := 1024) (pc2 := 4) S dX9_goOn_1 (by decide) rfl ?_
  refine v_idiv (pc2 := 5) S (by decide) dX9_goOn_4 rfl ?_
  refine v_nm (fun z1 ez1 => ?_)
  have hw := hw z1 ez1
  refine v_istore_n (lv2 := [(0, .ref a0.1), (1, .int i0), (2, .int i1), (3, .int z1)]) (pc2 := 6) S dX9_goOn_5 rfl (by decide) [1, 2, 3, 0] rfl rfl ?_
  refine v_iload_n (pc2 := 7) S 2 dX9_goOn_6 rfl rfl rfl ?_
  refine v_sipush (v := 1024) (pc2 := 10) S dX9_goOn_7 (by decide) rfl ?_
  refine v_irem (pc2 := 11) S (by decide) dX9_goOn_10 rfl ?_
  refine v_nm (fun z2 ez2 => ?_)
  have hw := hw z2 ez2
  refine v_istore (lv2 := [(0, .ref a0.1), (1, .int i0), (2, .int i1), (3, .int z1), (4, .int z2)]) (pc2 := 13) S dX9_goOn_11 (by decide) [1, 2, 3, 4, 0] rfl rfl ?_
  refine v_iconst (v := 0) (pc2 := 14) S dX9_goOn_13 (by decide) rfl ?_
  refine v_istore (lv2 := [(0, .ref a0.1), (1, .int i0), (2, .int i1), (3, .int z1), (4, .int z2), (5, .int (0 : Int32))]) (pc2 := 16) S dX9_goOn_14 (by decide) [1, 2, 3, 4, 5, 0] rfl rfl ?_
  obtain ⟨kk, hw⟩ := hw
  exact L16 i0 i1 z1 z2 kk (0 : Int32) v0 hw
set_option maxHeartbeats 4000000 in
set_option maxRecDepth 100000 in
theorem c_X9_deeds (l : Launch) (G : GG) (a0 : ModA) (v0 : ModV) (i0 : Int32) (i1 : Int32) (i2 : Int32) (Q : Int32 → ModV → Prop) (hw : wp_X9_deeds v0 i0 i1 i2 Q) : Con l G yX9_deeds cX9_deeds 6 (some .int) { frames := 5, cells := 0, slots := 0, locals := 116 } [.ref a0.1, .int i0, .int i1, .int i2] (wMod G a0 v0) (PI (fun u : ModV => wMod G a0 u) Q) 0 0 := by
  refine con_of RX9 rfl (by decide) [(0, .ref a0.1), (1, .int i0), (2, .int i1), (3, .int i2)] rfl (Nat.le_of_ble_eq_true rfl) ?_
  intro p e s m args below meth c S hname
  have B144 : ∀ (x1 : Int32) (x2 : Int32) (x5 : Int32) (t0 : Int32) (w0 : ModV) (K96 : Int32 → Int32 → ModV → Prop) (hK96 : ∀ (y0 : Int32) (y1 : Int32) (y2 : ModV), K96 y0 y1 y2 → V p l e { frames := 5, cells := 0, slots := 0, locals := 116 } s m args below meth c G (va_A (wMod G a0 v0) s.heap.size) 6 0 0 (MQ below (EQ G (wMod G a0 v0) s.heap.size (PI (fun u : ModV => wMod G a0 u) Q)) args s 0 0 (va_A (wMod G a0 v0) s.heap.size)) (wMod G a0 y2) 96 [(0, .ref a0.1), (1, .int x1), (2, .int x2), (4, .int y0), (5, .int y1)] []), wp_X9_deeds_B144 x1 x2 x5 t0 w0 Q K96 → V p l e { frames := 5, cells := 0, slots := 0, locals := 116 } s m args below meth c G (va_A (wMod G a0 v0) s.heap.size) 6 0 0 (MQ below (EQ G (wMod G a0 v0) s.heap.size (PI (fun u : ModV => wMod G a0 u) Q)) args s 0 0 (va_A (wMod G a0 v0) s.heap.size)) (wMod G a0 w0) 144 [(0, .ref a0.1), (1, .int x1), (2, .int x2), (5, .int x5)] [.int t0] := by
    intro x1 x2 x5 t0 w0 K96 hK96 hw
    refine v_istore (lv2 := [(0, .ref a0.1), (1, .int x1), (2, .int x2), (4, .int t0), (5, .int x5)]) (pc2 := 146) S dX9_deeds_144 (by decide) [1, 2, 3, 0, 4] rfl rfl ?_
    refine v_iload (pc2 := 148) S 3 dX9_deeds_146 rfl rfl ?_
    refine v_bipush (v := -4) (pc2 := 150) S dX9_deeds_148 (by decide) rfl ?_
    refine v_icmp_ne (pc2 := 153) (tgt := 165) S dX9_deeds_150 (by decide) rfl (fun c27 => ?_) (fun c27 => ?_)
    · have hw := hw.1 c27
      obtain ⟨z28, ez28⟩ : ∃ y : Int32, y = x5 + (1 : Int32) := ⟨_, rfl⟩
      have hw := hw z28 ez28
      refine v_iinc (v := z28) (lv2 := [(0, .ref a0.1), (1, .int x1), (2, .int x2), (4, .int t0), (5, .int z28)]) (pc2 := 168) S 4 dX9_deeds_165 rfl (by rw [ez28]; rfl) (by decide) [1, 2, 3, 4, 0] rfl rfl ?_
      refine v_goto (tgt := 96) S dX9_deeds_168 (by decide) ?_
      exact hK96 t0 z28 w0 hw
    · have hw := hw.2 c27
      refine v_aload_n (pc2 := 154) S 0 dX9_deeds_153 rfl rfl rfl ?_
      refine v_iload_n (pc2 := 155) S 1 dX9_deeds_154 rfl rfl rfl ?_
      refine v_aload_n (pc2 := 156) S 0 dX9_deeds_155 rfl rfl rfl ?_
      refine v_get (v := .ref a0.2.2.2.2.2.2.2.2) (pc2 := 159) S gf_X9_41 0 rfl rfl dX9_deeds_156 rfl ?_
      refine v_iload (pc2 := 161) S 4 dX9_deeds_159 rfl rfl ?_
      obtain ⟨h29, hw⟩ := hw
      refine v_iald (pc2 := 162) S 8 rfl h29 dX9_deeds_161 rfl ?_
      refine v_callV (pc2 := 165) (As := [.int x1, .int (w0.2.2.2.2.2.2.2.2.2.2.2.2.2.2.2.1 x5.toNatClampNeg)]) (rest := []) S (c_X9_goOn l G a0 w0 x1 (w0.2.2.2.2.2.2.2.2.2.2.2.2.2.2.2.1 x5.toNatClampNeg) _ hw) mf_X9_goOn u_1061 u_1063 u_53 0 9 rfl rfl rfl rfl ⟨rfl, rfl⟩ ⟨Nat.le_of_ble_eq_true rfl, Nat.le_of_ble_eq_true rfl⟩ ⟨Nat.le_of_ble_eq_true rfl, Nat.le_of_ble_eq_true rfl⟩ (Nat.le_of_ble_eq_true rfl) dX9_deeds_162 (frW _) rfl (pv (fun u31 hw => ?_))
      refine v_to (wMod G a0 u31) 165 [(0, .ref a0.1), (1, .int x1), (2, .int x2), (4, .int t0), (5, .int x5)] _ [] rfl rfl rfl rfl ?_
      obtain ⟨z32, ez32⟩ : ∃ y : Int32, y = x5 + (1 : Int32) := ⟨_, rfl⟩
      have hw := hw z32 ez32
      refine v_iinc (v := z32) (lv2 := [(0, .ref a0.1), (1, .int x1), (2, .int x2), (4, .int t0), (5, .int z32)]) (pc2 := 168) S 4 dX9_deeds_165 rfl (by rw [ez32]; rfl) (by decide) [1, 2, 3, 4, 0] rfl rfl ?_
      refine v_goto (tgt := 96) S dX9_deeds_168 (by decide) ?_
      exact hK96 t0 z32 u31 hw
  have L96 : ∀ (x1 : Int32) (x2 : Int32) (kk : Nat) (x4 : Int32) (x5 : Int32) (w0 : ModV), wp_X9_deeds_L96 x1 x2 Q kk x4 x5 w0 → V p l e { frames := 5, cells := 0, slots := 0, locals := 116 } s m args below meth c G (va_A (wMod G a0 v0) s.heap.size) 6 0 0 (MQ below (EQ G (wMod G a0 v0) s.heap.size (PI (fun u : ModV => wMod G a0 u) Q)) args s 0 0 (va_A (wMod G a0 v0) s.heap.size)) (wMod G a0 w0) 96 [(0, .ref a0.1), (1, .int x1), (2, .int x2), (4, .int x4), (5, .int x5)] [] := by
    intro x1 x2 kk
    induction kk with
    | zero => intro x4 x5 w0 hw; exact hw.elim
    | succ n ih =>
      intro x4 x5 w0 hw
      refine v_iload (pc2 := 98) S 4 dX9_deeds_96 rfl rfl ?_
      refine v_aload_n (pc2 := 99) S 0 dX9_deeds_98 rfl rfl rfl ?_
      refine v_get (v := .int w0.2.2.2.2.2.2.2.2.2.2.2.2.2.2.2.2) (pc2 := 102) S gf_X9_197 0 rfl rfl dX9_deeds_99 rfl ?_
      refine v_icmp_ge (pc2 := 105) (tgt := 171) S dX9_deeds_102 (by decide) rfl (fun c19 => ?_) (fun c19 => ?_)
      · have hw := hw.1 c19
        refine v_aload_n (pc2 := 172) S 0 dX9_deeds_171 rfl rfl rfl ?_
        refine v_get (v := .ref a0.2.2.1) (pc2 := 175) S gf_X9_13 0 rfl rfl dX9_deeds_172 rfl ?_
        refine v_iconst (v := 0) (pc2 := 176) S dX9_deeds_175 (by decide) rfl ?_
        refine v_aload_n (pc2 := 177) S 0 dX9_deeds_176 rfl rfl rfl ?_
        refine v_get (v := .ref a0.2.1) (pc2 := 180) S gf_X9_7 0 rfl rfl dX9_deeds_177 rfl ?_
        refine v_iconst (v := 0) (pc2 := 181) S dX9_deeds_180 (by decide) rfl ?_
        refine v_callS (pc2 := 184) (As := [.ref a0.2.2.1, .int (0 : Int32), .ref a0.2.1, .int (0 : Int32)]) (rest := []) S (c_X9_copyState l G 85 85 a0.2.2.1 a0.2.1 w0.2.1 w0.1 (0 : Int32) (0 : Int32) _ hw) mf_X9_copyState u_807 u_808 rfl rfl ⟨rfl, rfl⟩ ⟨Nat.le_of_ble_eq_true rfl, Nat.le_of_ble_eq_true rfl⟩ ⟨Nat.le_of_ble_eq_true rfl, Nat.le_of_ble_eq_true rfl⟩ (Nat.le_of_ble_eq_true rfl) dX9_deeds_181 (frP (Rs := ([(a0.1, .inr (9, [.ref a0.2.1, .ref a0.2.2.1, .ref a0.2.2.2.1, .int w0.2.2.2.1, .ref a0.2.2.2.2.1, .int w0.2.2.2.2.2.1, .ref a0.2.2.2.2.2.1, .int w0.2.2.2.2.2.2.2.1, .int w0.2.2.2.2.2.2.2.2.1, .int w0.2.2.2.2.2.2.2.2.2.1, .int w0.2.2.2.2.2.2.2.2.2.2.1, .int w0.2.2.2.2.2.2.2.2.2.2.2.1, .ref a0.2.2.2.2.2.2.1, .int w0.2.2.2.2.2.2.2.2.2.2.2.2.2.1, .ref a0.2.2.2.2.2.2.2.1, .ref a0.2.2.2.2.2.2.2.2, .int w0.2.2.2.2.2.2.2.2.2.2.2.2.2.2.2.2]))] : va_W) ++ (([(a0.2.2.2.1, .inl (G.2.1, 340, .inl w0.2.2.1))] : va_W) ++ (([(a0.2.2.2.2.1, .inl (G.2.1, 85, .inl w0.2.2.2.2.1))] : va_W) ++ (([(a0.2.2.2.2.2.1, .inl (G.2.1, 60, .inl w0.2.2.2.2.2.2.1))] : va_W) ++ (([(a0.2.2.2.2.2.2.1, .inl (G.2.1, 124, .inl w0.2.2.2.2.2.2.2.2.2.2.2.2.1))] : va_W) ++ (([(a0.2.2.2.2.2.2.2.1, .inl (G.2.1, 6144, .inl w0.2.2.2.2.2.2.2.2.2.2.2.2.2.2.1))] : va_W) ++ (([(a0.2.2.2.2.2.2.2.2, .inl (G.2.1, 6144, .inl w0.2.2.2.2.2.2.2.2.2.2.2.2.2.2.2.1))] : va_W)))))))) (gperm [[(a0.1, .inr (9, [.ref a0.2.1, .ref a0.2.2.1, .ref a0.2.2.2.1, .int w0.2.2.2.1, .ref a0.2.2.2.2.1, .int w0.2.2.2.2.2.1, .ref a0.2.2.2.2.2.1, .int w0.2.2.2.2.2.2.2.1, .int w0.2.2.2.2.2.2.2.2.1, .int w0.2.2.2.2.2.2.2.2.2.1, .int w0.2.2.2.2.2.2.2.2.2.2.1, .int w0.2.2.2.2.2.2.2.2.2.2.2.1, .ref a0.2.2.2.2.2.2.1, .int w0.2.2.2.2.2.2.2.2.2.2.2.2.2.1, .ref a0.2.2.2.2.2.2.2.1, .ref a0.2.2.2.2.2.2.2.2, .int w0.2.2.2.2.2.2.2.2.2.2.2.2.2.2.2.2]))], [(a0.2.1, .inl (G.2.1, 85, .inl w0.1))], [(a0.2.2.1, .inl (G.2.1, 85, .inl w0.2.1))], [(a0.2.2.2.1, .inl (G.2.1, 340, .inl w0.2.2.1))], [(a0.2.2.2.2.1, .inl (G.2.1, 85, .inl w0.2.2.2.2.1))], [(a0.2.2.2.2.2.1, .inl (G.2.1, 60, .inl w0.2.2.2.2.2.2.1))], [(a0.2.2.2.2.2.2.1, .inl (G.2.1, 124, .inl w0.2.2.2.2.2.2.2.2.2.2.2.2.1))], [(a0.2.2.2.2.2.2.2.1, .inl (G.2.1, 6144, .inl w0.2.2.2.2.2.2.2.2.2.2.2.2.2.2.1))], [(a0.2.2.2.2.2.2.2.2, .inl (G.2.1, 6144, .inl w0.2.2.2.2.2.2.2.2.2.2.2.2.2.2.2.1))]] [2, 1, 0, 3, 4, 5, 6, 7, 8] rfl)) rfl (pv (fun u21 hw => ?_))
        refine v_perm _ (gperm [[(a0.2.2.1, .inl (G.2.1, 85, .inl w0.2.1))], [(a0.2.1, .inl (G.2.1, 85, .inl u21))], [(a0.1, .inr (9, [.ref a0.2.1, .ref a0.2.2.1, .ref a0.2.2.2.1, .int w0.2.2.2.1, .ref a0.2.2.2.2.1, .int w0.2.2.2.2.2.1, .ref a0.2.2.2.2.2.1, .int w0.2.2.2.2.2.2.2.1, .int w0.2.2.2.2.2.2.2.2.1, .int w0.2.2.2.2.2.2.2.2.2.1, .int w0.2.2.2.2.2.2.2.2.2.2.1, .int w0.2.2.2.2.2.2.2.2.2.2.2.1, .ref a0.2.2.2.2.2.2.1, .int w0.2.2.2.2.2.2.2.2.2.2.2.2.2.1, .ref a0.2.2.2.2.2.2.2.1, .ref a0.2.2.2.2.2.2.2.2, .int w0.2.2.2.2.2.2.2.2.2.2.2.2.2.2.2.2]))], [(a0.2.2.2.1, .inl (G.2.1, 340, .inl w0.2.2.1))], [(a0.2.2.2.2.1, .inl (G.2.1, 85, .inl w0.2.2.2.2.1))], [(a0.2.2.2.2.2.1, .inl (G.2.1, 60, .inl w0.2.2.2.2.2.2.1))], [(a0.2.2.2.2.2.2.1, .inl (G.2.1, 124, .inl w0.2.2.2.2.2.2.2.2.2.2.2.2.1))], [(a0.2.2.2.2.2.2.2.1, .inl (G.2.1, 6144, .inl w0.2.2.2.2.2.2.2.2.2.2.2.2.2.2.1))], [(a0.2.2.2.2.2.2.2.2, .inl (G.2.1, 6144, .inl w0.2.2.2.2.2.2.2.2.2.2.2.2.2.2.2.1))]] [2, 1, 0, 3, 4, 5, 6, 7, 8] rfl) ?_
        refine v_to (wMod G a0 (u21, w0.2.1, w0.2.2.1, w0.2.2.2.1, w0.2.2.2.2.1, w0.2.2.2.2.2.1, w0.2.2.2.2.2.2.1, w0.2.2.2.2.2.2.2.1, w0.2.2.2.2.2.2.2.2.1, w0.2.2.2.2.2.2.2.2.2.1, w0.2.2.2.2.2.2.2.2.2.2.1, w0.2.2.2.2.2.2.2.2.2.2.2.1, w0.2.2.2.2.2.2.2.2.2.2.2.2.1, w0.2.2.2.2.2.2.2.2.2.2.2.2.2.1, w0.2.2.2.2.2.2.2.2.2.2.2.2.2.2.1, w0.2.2.2.2.2.2.2.2.2.2.2.2.2.2.2.1, w0.2.2.2.2.2.2.2.2.2.2.2.2.2.2.2.2)) 184 [(0, .ref a0.1), (1, .int x1), (2, .int x2), (4, .int x4), (5, .int x5)] _ [] rfl rfl rfl rfl ?_
        refine v_iload (pc2 := 186) S 3 dX9_deeds_184 rfl rfl ?_
        exact v_iret S ⟨x4, (u21, w0.2.1, w0.2.2.1, w0.2.2.2.1, w0.2.2.2.2.1, w0.2.2.2.2.2.1, w0.2.2.2.2.2.2.1, w0.2.2.2.2.2.2.2.1, w0.2.2.2.2.2.2.2.2.1, w0.2.2.2.2.2.2.2.2.2.1, w0.2.2.2.2.2.2.2.2.2.2.1, w0.2.2.2.2.2.2.2.2.2.2.2.1, w0.2.2.2.2.2.2.2.2.2.2.2.2.1, w0.2.2.2.2.2.2.2.2.2.2.2.2.2.1, w0.2.2.2.2.2.2.2.2.2.2.2.2.2.2.1, w0.2.2.2.2.2.2.2.2.2.2.2.2.2.2.2.1, w0.2.2.2.2.2.2.2.2.2.2.2.2.2.2.2.2), rfl, rfl, hw⟩ dX9_deeds_186
      · have hw := hw.2 c19
        refine v_iload (pc2 := 107) S 3 dX9_deeds_105 rfl rfl ?_
        refine v_bipush (v := -4) (pc2 := 109) S dX9_deeds_107 (by decide) rfl ?_
        refine v_icmp_ne (pc2 := 112) (tgt := 171) S dX9_deeds_109 (by decide) rfl (fun c22 => ?_) (fun c22 => ?_)
        · have hw := hw.1 c22
          refine v_aload_n (pc2 := 172) S 0 dX9_deeds_171 rfl rfl rfl ?_
          refine v_get (v := .ref a0.2.2.1) (pc2 := 175) S gf_X9_13 0 rfl rfl dX9_deeds_172 rfl ?_
          refine v_iconst (v := 0) (pc2 := 176) S dX9_deeds_175 (by decide) rfl ?_
          refine v_aload_n (pc2 := 177) S 0 dX9_deeds_176 rfl rfl rfl ?_
          refine v_get (v := .ref a0.2.1) (pc2 := 180) S gf_X9_7 0 rfl rfl dX9_deeds_177 rfl ?_
          refine v_iconst (v := 0) (pc2 := 181) S dX9_deeds_180 (by decide) rfl ?_
          refine v_callS (pc2 := 184) (As := [.ref a0.2.2.1, .int (0 : Int32), .ref a0.2.1, .int (0 : Int32)]) (rest := []) S (c_X9_copyState l G 85 85 a0.2.2.1 a0.2.1 w0.2.1 w0.1 (0 : Int32) (0 : Int32) _ hw) mf_X9_copyState u_807 u_808 rfl rfl ⟨rfl, rfl⟩ ⟨Nat.le_of_ble_eq_true rfl, Nat.le_of_ble_eq_true rfl⟩ ⟨Nat.le_of_ble_eq_true rfl, Nat.le_of_ble_eq_true rfl⟩ (Nat.le_of_ble_eq_true rfl) dX9_deeds_181 (frP (Rs := ([(a0.1, .inr (9, [.ref a0.2.1, .ref a0.2.2.1, .ref a0.2.2.2.1, .int w0.2.2.2.1, .ref a0.2.2.2.2.1, .int w0.2.2.2.2.2.1, .ref a0.2.2.2.2.2.1, .int w0.2.2.2.2.2.2.2.1, .int w0.2.2.2.2.2.2.2.2.1, .int w0.2.2.2.2.2.2.2.2.2.1, .int w0.2.2.2.2.2.2.2.2.2.2.1, .int w0.2.2.2.2.2.2.2.2.2.2.2.1, .ref a0.2.2.2.2.2.2.1, .int w0.2.2.2.2.2.2.2.2.2.2.2.2.2.1, .ref a0.2.2.2.2.2.2.2.1, .ref a0.2.2.2.2.2.2.2.2, .int w0.2.2.2.2.2.2.2.2.2.2.2.2.2.2.2.2]))] : va_W) ++ (([(a0.2.2.2.1, .inl (G.2.1, 340, .inl w0.2.2.1))] : va_W) ++ (([(a0.2.2.2.2.1, .inl (G.2.1, 85, .inl w0.2.2.2.2.1))] : va_W) ++ (([(a0.2.2.2.2.2.1, .inl (G.2.1, 60, .inl w0.2.2.2.2.2.2.1))] : va_W) ++ (([(a0.2.2.2.2.2.2.1, .inl (G.2.1, 124, .inl w0.2.2.2.2.2.2.2.2.2.2.2.2.1))] : va_W) ++ (([(a0.2.2.2.2.2.2.2.1, .inl (G.2.1, 6144, .inl w0.2.2.2.2.2.2.2.2.2.2.2.2.2.2.1))] : va_W) ++ (([(a0.2.2.2.2.2.2.2.2, .inl (G.2.1, 6144, .inl w0.2.2.2.2.2.2.2.2.2.2.2.2.2.2.2.1))] : va_W)))))))) (gperm [[(a0.1, .inr (9, [.ref a0.2.1, .ref a0.2.2.1, .ref a0.2.2.2.1, .int w0.2.2.2.1, .ref a0.2.2.2.2.1, .int w0.2.2.2.2.2.1, .ref a0.2.2.2.2.2.1, .int w0.2.2.2.2.2.2.2.1, .int w0.2.2.2.2.2.2.2.2.1, .int w0.2.2.2.2.2.2.2.2.2.1, .int w0.2.2.2.2.2.2.2.2.2.2.1, .int w0.2.2.2.2.2.2.2.2.2.2.2.1, .ref a0.2.2.2.2.2.2.1, .int w0.2.2.2.2.2.2.2.2.2.2.2.2.2.1, .ref a0.2.2.2.2.2.2.2.1, .ref a0.2.2.2.2.2.2.2.2, .int w0.2.2.2.2.2.2.2.2.2.2.2.2.2.2.2.2]))], [(a0.2.1, .inl (G.2.1, 85, .inl w0.1))], [(a0.2.2.1, .inl (G.2.1, 85, .inl w0.2.1))], [(a0.2.2.2.1, .inl (G.2.1, 340, .inl w0.2.2.1))], [(a0.2.2.2.2.1, .inl (G.2.1, 85, .inl w0.2.2.2.2.1))], [(a0.2.2.2.2.2.1, .inl (G.2.1, 60, .inl w0.2.2.2.2.2.2.1))], [(a0.2.2.2.2.2.2.1, .inl (G.2.1, 124, .inl w0.2.2.2.2.2.2.2.2.2.2.2.2.1))], [(a0.2.2.2.2.2.2.2.1, .inl (G.2.1, 6144, .inl w0.2.2.2.2.2.2.2.2.2.2.2.2.2.2.1))], [(a0.2.2.2.2.2.2.2.2, .inl (G.2.1, 6144, .inl w0.2.2.2.2.2.2.2.2.2.2.2.2.2.2.2.1))]] [2, 1, 0, 3, 4, 5, 6, 7, 8] rfl)) rfl (pv (fun u24 hw => ?_))
          refine v_perm _ (gperm [[(a0.2.2.1, .inl (G.2.1, 85, .inl w0.2.1))], [(a0.2.1, .inl (G.2.1, 85, .inl u24))], [(a0.1, .inr (9, [.ref a0.2.1, .ref a0.2.2.1, .ref a0.2.2.2.1, .int w0.2.2.2.1, .ref a0.2.2.2.2.1, .int w0.2.2.2.2.2.1, .ref a0.2.2.2.2.2.1, .int w0.2.2.2.2.2.2.2.1, .int w0.2.2.2.2.2.2.2.2.1, .int w0.2.2.2.2.2.2.2.2.2.1, .int w0.2.2.2.2.2.2.2.2.2.2.1, .int w0.2.2.2.2.2.2.2.2.2.2.2.1, .ref a0.2.2.2.2.2.2.1, .int w0.2.2.2.2.2.2.2.2.2.2.2.2.2.1, .ref a0.2.2.2.2.2.2.2.1, .ref a0.2.2.2.2.2.2.2.2, .int w0.2.2.2.2.2.2.2.2.2.2.2.2.2.2.2.2]))], [(a0.2.2.2.1, .inl (G.2.1, 340, .inl w0.2.2.1))], [(a0.2.2.2.2.1, .inl (G.2.1, 85, .inl w0.2.2.2.2.1))], [(a0.2.2.2.2.2.1, .inl (G.2.1, 60, .inl w0.2.2.2.2.2.2.1))], [(a0.2.2.2.2.2.2.1, .inl (G.2.1, 124, .inl w0.2.2.2.2.2.2.2.2.2.2.2.2.1))], [(a0.2.2.2.2.2.2.2.1, .inl (G.2.1, 6144, .inl w0.2.2.2.2.2.2.2.2.2.2.2.2.2.2.1))], [(a0.2.2.2.2.2.2.2.2, .inl (G.2.1, 6144, .inl w0.2.2.2.2.2.2.2.2.2.2.2.2.2.2.2.1))]] [2, 1, 0, 3, 4, 5, 6, 7, 8] rfl) ?_
          refine v_to (wMod G a0 (u24, w0.2.1, w0.2.2.1, w0.2.2.2.1, w0.2.2.2.2.1, w0.2.2.2.2.2.1, w0.2.2.2.2.2.2.1, w0.2.2.2.2.2.2.2.1, w0.2.2.2.2.2.2.2.2.1, w0.2.2.2.2.2.2.2.2.2.1, w0.2.2.2.2.2.2.2.2.2.2.1, w0.2.2.2.2.2.2.2.2.2.2.2.1, w0.2.2.2.2.2.2.2.2.2.2.2.2.1, w0.2.2.2.2.2.2.2.2.2.2.2.2.2.1, w0.2.2.2.2.2.2.2.2.2.2.2.2.2.2.1, w0.2.2.2.2.2.2.2.2.2.2.2.2.2.2.2.1, w0.2.2.2.2.2.2.2.2.2.2.2.2.2.2.2.2)) 184 [(0, .ref a0.1), (1, .int x1), (2, .int x2), (4, .int x4), (5, .int x5)] _ [] rfl rfl rfl rfl ?_
          refine v_iload (pc2 := 186) S 3 dX9_deeds_184 rfl rfl ?_
          exact v_iret S ⟨x4, (u24, w0.2.1, w0.2.2.1, w0.2.2.2.1, w0.2.2.2.2.1, w0.2.2.2.2.2.1, w0.2.2.2.2.2.2.1, w0.2.2.2.2.2.2.2.1, w0.2.2.2.2.2.2.2.2.1, w0.2.2.2.2.2.2.2.2.2.1, w0.2.2.2.2.2.2.2.2.2.2.1, w0.2.2.2.2.2.2.2.2.2.2.2.1, w0.2.2.2.2.2.2.2.2.2.2.2.2.1, w0.2.2.2.2.2.2.2.2.2.2.2.2.2.1, w0.2.2.2.2.2.2.2.2.2.2.2.2.2.2.1, w0.2.2.2.2.2.2.2.2.2.2.2.2.2.2.2.1, w0.2.2.2.2.2.2.2.2.2.2.2.2.2.2.2.2), rfl, rfl, hw⟩ dX9_deeds_186
        · have hw := hw.2 c22
          refine v_aload_n (pc2 := 113) S 0 dX9_deeds_112 rfl rfl rfl ?_
          refine v_get (v := .ref a0.2.2.2.2.2.2.2.2) (pc2 := 116) S gf_X9_41 0 rfl rfl dX9_deeds_113 rfl ?_
          refine v_iload (pc2 := 118) S 4 dX9_deeds_116 rfl rfl ?_
          obtain ⟨h25, hw⟩ := hw
          refine v_iald (pc2 := 119) S 8 rfl h25 dX9_deeds_118 rfl ?_
          refine v_sipush (v := 1024) (pc2 := 122) S dX9_deeds_119 (by decide) rfl ?_
          refine v_idiv (pc2 := 123) S (by decide) dX9_deeds_122 rfl ?_
          refine v_iload_n (pc2 := 124) S 2 dX9_deeds_123 rfl rfl rfl ?_
          refine v_icmp_ne (pc2 := 127) (tgt := 142) S dX9_deeds_124 (by decide) rfl (fun c26 => ?_) (fun c26 => ?_)
          · have hw := hw.1 c26
            refine v_bipush (v := -4) (pc2 := 144) S dX9_deeds_142 (by decide) rfl ?_
            refine v_lv [(0, .ref a0.1), (1, .int x1), (2, .int x2), (5, .int x5)] [0, 1, 2, 4] rfl ?_
            exact B144 x1 x2 x5 (-4 : Int32) w0 (wp_X9_deeds_L96 x1 x2 Q n) ih hw
          · have hw := hw.2 c26
            refine v_aload_n (pc2 := 128) S 0 dX9_deeds_127 rfl rfl rfl ?_
            refine v_get (v := .ref a0.2.2.2.2.2.2.2.1) (pc2 := 131) S gf_X9_38 0 rfl rfl dX9_deeds_128 rfl ?_
            refine v_aload_n (pc2 := 132) S 0 dX9_deeds_131 rfl rfl rfl ?_
            refine v_get (v := .ref a0.2.2.2.2.2.2.2.2) (pc2 := 135) S gf_X9_41 0 rfl rfl dX9_deeds_132 rfl ?_
            refine v_iload (pc2 := 137) S 4 dX9_deeds_135 rfl rfl ?_
            obtain ⟨h33, hw⟩ := hw
            refine v_iald (pc2 := 138) S 8 rfl h33 dX9_deeds_137 rfl ?_
            obtain ⟨h34, hw⟩ := hw
            refine v_iald (pc2 := 139) S 7 rfl h34 dX9_deeds_138 rfl ?_
            refine v_goto (tgt := 144) S dX9_deeds_139 (by decide) ?_
            refine v_lv [(0, .ref a0.1), (1, .int x1), (2, .int x2), (5, .int x5)] [0, 1, 2, 4] rfl ?_
            exact B144 x1 x2 x5 (w0.2.2.2.2.2.2.2.2.2.2.2.2.2.2.1 (w0.2.2.2.2.2.2.2.2.2.2.2.2.2.2.2.1 x5.toNatClampNeg).toNatClampNeg) w0 (wp_X9_deeds_L96 x1 x2 Q n) ih hw
  have L41 : ∀ (x1 : Int32) (x2 : Int32) (kk : Nat) (x4 : Int32) (w0 : ModV), wp_X9_deeds_L41 x1 x2 Q kk x4 w0 → V p l e { frames := 5, cells := 0, slots := 0, locals := 116 } s m args below meth c G (va_A (wMod G a0 v0) s.heap.size) 6 0 0 (MQ below (EQ G (wMod G a0 v0) s.heap.size (PI (fun u : ModV => wMod G a0 u) Q)) args s 0 0 (va_A (wMod G a0 v0) s.heap.size)) (wMod G a0 w0) 41 [(0, .ref a0.1), (1, .int x1), (2, .int x2), (4, .int x4)] [] := by
    intro x1 x2 kk
    induction kk with
    | zero => intro x4 w0 hw; exact hw.elim
    | succ n ih =>
      intro x4 w0 hw
      refine v_iload (pc2 := 43) S 3 dX9_deeds_41 rfl rfl ?_
      refine v_sipush (v := 6144) (pc2 := 46) S dX9_deeds_43 (by decide) rfl ?_
      refine v_icmp_ge (pc2 := 49) (tgt := 64) S dX9_deeds_46 (by decide) rfl (fun c12 => ?_) (fun c12 => ?_)
      · have hw := hw.1 c12
        refine v_aload_n (pc2 := 65) S 0 dX9_deeds_64 rfl rfl rfl ?_
        refine v_iconst (v := 0) (pc2 := 66) S dX9_deeds_65 (by decide) rfl ?_
        refine v_put (ws2 := wMod G a0 (w0.1, w0.2.1, w0.2.2.1, w0.2.2.2.1, w0.2.2.2.2.1, w0.2.2.2.2.2.1, w0.2.2.2.2.2.2.1, w0.2.2.2.2.2.2.2.1, w0.2.2.2.2.2.2.2.2.1, w0.2.2.2.2.2.2.2.2.2.1, w0.2.2.2.2.2.2.2.2.2.2.1, w0.2.2.2.2.2.2.2.2.2.2.2.1, w0.2.2.2.2.2.2.2.2.2.2.2.2.1, w0.2.2.2.2.2.2.2.2.2.2.2.2.2.1, w0.2.2.2.2.2.2.2.2.2.2.2.2.2.2.1, w0.2.2.2.2.2.2.2.2.2.2.2.2.2.2.2.1, (0 : Int32))) (pc2 := 69) S gf_X9_197 pf_X9_16 0 rfl rfl rfl (Nat.le_of_ble_eq_true rfl) rfl dX9_deeds_66 rfl ?_
        refine v_aload_n (pc2 := 70) S 0 dX9_deeds_69 rfl rfl rfl ?_
        refine v_sipush (v := 1024) (pc2 := 73) S dX9_deeds_70 (by decide) rfl ?_
        refine v_aload_n (pc2 := 74) S 0 dX9_deeds_73 rfl rfl rfl ?_
        refine v_iload_n (pc2 := 75) S 1 dX9_deeds_74 rfl rfl rfl ?_
        refine v_iconst (v := 0) (pc2 := 76) S dX9_deeds_75 (by decide) rfl ?_
        refine v_callV (pc2 := 79) (As := [.int x1, .int (0 : Int32)]) (rest := [.int (1024 : Int32), .ref a0.1]) S (c_X9_ofGuest l G a0 (w0.1, w0.2.1, w0.2.2.1, w0.2.2.2.1, w0.2.2.2.2.1, w0.2.2.2.2.2.1, w0.2.2.2.2.2.2.1, w0.2.2.2.2.2.2.2.1, w0.2.2.2.2.2.2.2.2.1, w0.2.2.2.2.2.2.2.2.2.1, w0.2.2.2.2.2.2.2.2.2.2.1, w0.2.2.2.2.2.2.2.2.2.2.2.1, w0.2.2.2.2.2.2.2.2.2.2.2.2.1, w0.2.2.2.2.2.2.2.2.2.2.2.2.2.1, w0.2.2.2.2.2.2.2.2.2.2.2.2.2.2.1, w0.2.2.2.2.2.2.2.2.2.2.2.2.2.2.2.1, (0 : Int32)) x1 (0 : Int32) _ hw) mf_X9_ofGuest u_907 u_909 u_34 0 9 rfl rfl rfl rfl ⟨rfl, rfl⟩ ⟨Nat.le_of_ble_eq_true rfl, Nat.le_of_ble_eq_true rfl⟩ ⟨Nat.le_of_ble_eq_true rfl, Nat.le_of_ble_eq_true rfl⟩ (Nat.le_of_ble_eq_true rfl) dX9_deeds_76 (frW _) rfl (pi (fun r13 u14 hw => ?_))
        refine v_to (wMod G a0 (w0.1, w0.2.1, w0.2.2.1, w0.2.2.2.1, w0.2.2.2.2.1, w0.2.2.2.2.2.1, w0.2.2.2.2.2.2.1, w0.2.2.2.2.2.2.2.1, w0.2.2.2.2.2.2.2.2.1, w0.2.2.2.2.2.2.2.2.2.1, w0.2.2.2.2.2.2.2.2.2.2.1, w0.2.2.2.2.2.2.2.2.2.2.2.1, w0.2.2.2.2.2.2.2.2.2.2.2.2.1, w0.2.2.2.2.2.2.2.2.2.2.2.2.2.1, w0.2.2.2.2.2.2.2.2.2.2.2.2.2.2.1, w0.2.2.2.2.2.2.2.2.2.2.2.2.2.2.2.1, (0 : Int32))) 79 [(0, .ref a0.1), (1, .int x1), (2, .int x2), (4, .int x4)] _ [.int r13, .int (1024 : Int32), .ref a0.1] rfl rfl rfl rfl ?_
        refine v_imul (pc2 := 80) S dX9_deeds_79 rfl ?_
        refine v_aload_n (pc2 := 81) S 0 dX9_deeds_80 rfl rfl rfl ?_
        refine v_callV (pc2 := 84) (As := []) (rest := [.int ((1024 : Int32) * r13), .ref a0.1]) S (c_X9_openSet l G a0 (w0.1, w0.2.1, w0.2.2.1, w0.2.2.2.1, w0.2.2.2.2.1, w0.2.2.2.2.2.1, w0.2.2.2.2.2.2.1, w0.2.2.2.2.2.2.2.1, w0.2.2.2.2.2.2.2.2.1, w0.2.2.2.2.2.2.2.2.2.1, w0.2.2.2.2.2.2.2.2.2.2.1, w0.2.2.2.2.2.2.2.2.2.2.2.1, w0.2.2.2.2.2.2.2.2.2.2.2.2.1, w0.2.2.2.2.2.2.2.2.2.2.2.2.2.1, w0.2.2.2.2.2.2.2.2.2.2.2.2.2.2.1, w0.2.2.2.2.2.2.2.2.2.2.2.2.2.2.2.1, (0 : Int32)) _ hw) mf_X9_openSet u_814 u_816 u_17 0 9 rfl rfl rfl rfl ⟨rfl, rfl⟩ ⟨Nat.le_of_ble_eq_true rfl, Nat.le_of_ble_eq_true rfl⟩ ⟨Nat.le_of_ble_eq_true rfl, Nat.le_of_ble_eq_true rfl⟩ (Nat.le_of_ble_eq_true rfl) dX9_deeds_81 (frW _) rfl (pi (fun r15 u16 hw => ?_))
        refine v_to (wMod G a0 (w0.1, w0.2.1, w0.2.2.1, w0.2.2.2.1, w0.2.2.2.2.1, w0.2.2.2.2.2.1, w0.2.2.2.2.2.2.1, w0.2.2.2.2.2.2.2.1, w0.2.2.2.2.2.2.2.2.1, w0.2.2.2.2.2.2.2.2.2.1, w0.2.2.2.2.2.2.2.2.2.2.1, w0.2.2.2.2.2.2.2.2.2.2.2.1, w0.2.2.2.2.2.2.2.2.2.2.2.2.1, w0.2.2.2.2.2.2.2.2.2.2.2.2.2.1, w0.2.2.2.2.2.2.2.2.2.2.2.2.2.2.1, w0.2.2.2.2.2.2.2.2.2.2.2.2.2.2.2.1, (0 : Int32))) 84 [(0, .ref a0.1), (1, .int x1), (2, .int x2), (4, .int x4)] _ [.int r15, .int ((1024 : Int32) * r13), .ref a0.1] rfl rfl rfl rfl ?_
        refine v_iadd (pc2 := 85) S dX9_deeds_84 rfl ?_
        refine v_iconst (v := 0) (pc2 := 86) S dX9_deeds_85 (by decide) rfl ?_
        refine v_callV (pc2 := 89) (As := [.int (((1024 : Int32) * r13) + r15), .int (0 : Int32)]) (rest := []) S (c_X9_reach l G a0 (w0.1, w0.2.1, w0.2.2.1, w0.2.2.2.1, w0.2.2.2.2.1, w0.2.2.2.2.2.1, w0.2.2.2.2.2.2.1, w0.2.2.2.2.2.2.2.1, w0.2.2.2.2.2.2.2.2.1, w0.2.2.2.2.2.2.2.2.2.1, w0.2.2.2.2.2.2.2.2.2.2.1, w0.2.2.2.2.2.2.2.2.2.2.2.1, w0.2.2.2.2.2.2.2.2.2.2.2.2.1, w0.2.2.2.2.2.2.2.2.2.2.2.2.2.1, w0.2.2.2.2.2.2.2.2.2.2.2.2.2.2.1, w0.2.2.2.2.2.2.2.2.2.2.2.2.2.2.2.1, (0 : Int32)) (((1024 : Int32) * r13) + r15) (0 : Int32) _ hw) mf_X9_reach u_1057 u_1059 u_52 0 9 rfl rfl rfl rfl ⟨rfl, rfl⟩ ⟨Nat.le_of_ble_eq_true rfl, Nat.le_of_ble_eq_true rfl⟩ ⟨Nat.le_of_ble_eq_true rfl, Nat.le_of_ble_eq_true rfl⟩ (Nat.le_of_ble_eq_true rfl) dX9_deeds_86 (frW _) rfl (pv (fun u18 hw => ?_))
        refine v_to (wMod G a0 u18) 89 [(0, .ref a0.1), (1, .int x1), (2, .int x2), (4, .int x4)] _ [] rfl rfl rfl rfl ?_
        refine v_bipush (v := -4) (pc2 := 91) S dX9_deeds_89 (by decide) rfl ?_
        refine v_istore (lv2 := [(0, .ref a0.1), (1, .int x1), (2, .int x2), (4, .int (-4 : Int32))]) (pc2 := 93) S dX9_deeds_91 (by decide) [1, 2, 3, 0] rfl rfl ?_
        refine v_iconst (v := 0) (pc2 := 94) S dX9_deeds_93 (by decide) rfl ?_
        refine v_istore (lv2 := [(0, .ref a0.1), (1, .int x1), (2, .int x2), (4, .int (-4 : Int32)), (5, .int (0 : Int32))]) (pc2 := 96) S dX9_deeds_94 (by decide) [1, 2, 3, 4, 0] rfl rfl ?_
        obtain ⟨kk, hw⟩ := hw
        exact L96 x1 x2 kk (-4 : Int32) (0 : Int32) u18 hw
      · have hw := hw.2 c12
        refine v_aload_n (pc2 := 50) S 0 dX9_deeds_49 rfl rfl rfl ?_
        refine v_get (v := .ref a0.2.2.2.2.2.2.2.1) (pc2 := 53) S gf_X9_38 0 rfl rfl dX9_deeds_50 rfl ?_
        refine v_iload (pc2 := 55) S 3 dX9_deeds_53 rfl rfl ?_
        refine v_bipush (v := -4) (pc2 := 57) S dX9_deeds_55 (by decide) rfl ?_
        obtain ⟨h35, hw⟩ := hw
        obtain ⟨g36, eg36⟩ : ∃ y : Nat → Int32, y = upd w0.2.2.2.2.2.2.2.2.2.2.2.2.2.2.1 x4.toNatClampNeg (-4 : Int32) := ⟨_, rfl⟩
        have hw := hw g36 eg36
        refine v_iast (ws2 := wMod G a0 (w0.1, w0.2.1, w0.2.2.1, w0.2.2.2.1, w0.2.2.2.2.1, w0.2.2.2.2.2.1, w0.2.2.2.2.2.2.1, w0.2.2.2.2.2.2.2.1, w0.2.2.2.2.2.2.2.2.1, w0.2.2.2.2.2.2.2.2.2.1, w0.2.2.2.2.2.2.2.2.2.2.1, w0.2.2.2.2.2.2.2.2.2.2.2.1, w0.2.2.2.2.2.2.2.2.2.2.2.2.1, w0.2.2.2.2.2.2.2.2.2.2.2.2.2.1, g36, w0.2.2.2.2.2.2.2.2.2.2.2.2.2.2.2.1, w0.2.2.2.2.2.2.2.2.2.2.2.2.2.2.2.2)) (pc2 := 58) S 7 rfl h35 (by rw [eg36] <;> rfl) dX9_deeds_57 rfl ?_
        obtain ⟨z37, ez37⟩ : ∃ y : Int32, y = x4 + (1 : Int32) := ⟨_, rfl⟩
        have hw := hw z37 ez37
        refine v_iinc (v := z37) (lv2 := [(0, .ref a0.1), (1, .int x1), (2, .int x2), (4, .int z37)]) (pc2 := 61) S 3 dX9_deeds_58 rfl (by rw [ez37]; rfl) (by decide) [1, 2, 3, 0] rfl rfl ?_
        refine v_goto (tgt := 41) S dX9_deeds_61 (by decide) ?_
        exact ih z37 (w0.1, w0.2.1, w0.2.2.1, w0.2.2.2.1, w0.2.2.2.2.1, w0.2.2.2.2.2.1, w0.2.2.2.2.2.2.1, w0.2.2.2.2.2.2.2.1, w0.2.2.2.2.2.2.2.2.1, w0.2.2.2.2.2.2.2.2.2.1, w0.2.2.2.2.2.2.2.2.2.2.1, w0.2.2.2.2.2.2.2.2.2.2.2.1, w0.2.2.2.2.2.2.2.2.2.2.2.2.1, w0.2.2.2.2.2.2.2.2.2.2.2.2.2.1, g36, w0.2.2.2.2.2.2.2.2.2.2.2.2.2.2.2.1, w0.2.2.2.2.2.2.2.2.2.2.2.2.2.2.2.2) hw
  refine v_iload_n (pc2 := 1) S 1 dX9_deeds_0 rfl rfl rfl ?_
  refine v_callS (pc2 := 4) (As := [.int i0]) (rest := []) S (c_X9_isGuest l G i0 _ hw) mf_X9_isGuest u_896 u_897 rfl rfl ⟨rfl, rfl⟩ ⟨Nat.le_of_ble_eq_true rfl, Nat.le_of_ble_eq_true rfl⟩ ⟨Nat.le_of_ble_eq_true rfl, Nat.le_of_ble_eq_true rfl⟩ (Nat.le_of_ble_eq_true rfl) dX9_deeds_1 (frM [] [] _) rfl (pb (fun r1 u2 br1 hw => ?_))
  refine v_to (wMod G a0 v0) 4 [(0, .ref a0.1), (1, .int i0), (2, .int i1), (3, .int i2)] _ [.int r1] rfl rfl rfl rfl ?_
  refine v_if_eq (pc2 := 7) (tgt := 23) S dX9_deeds_4 (by decide) rfl (fun c3 => ?_) (fun c3 => ?_)
  · have hw := hw.1 c3
    refine v_iconst (v := -1) (pc2 := 24) S dX9_deeds_23 (by decide) rfl ?_
    exact v_iret S ⟨(-1 : Int32), v0, rfl, rfl, hw⟩ dX9_deeds_24
  · have hw := hw.2 c3
    refine v_iload_n (pc2 := 8) S 2 dX9_deeds_7 rfl rfl rfl ?_
    refine v_callS (pc2 := 11) (As := [.int i1]) (rest := []) S (c_X9_isHall l G i1 _ hw) mf_X9_isHall u_943 u_944 rfl rfl ⟨rfl, rfl⟩ ⟨Nat.le_of_ble_eq_true rfl, Nat.le_of_ble_eq_true rfl⟩ ⟨Nat.le_of_ble_eq_true rfl, Nat.le_of_ble_eq_true rfl⟩ (Nat.le_of_ble_eq_true rfl) dX9_deeds_8 (frM [] [] _) rfl (pb (fun r4 u5 br4 hw => ?_))
    refine v_to (wMod G a0 v0) 11 [(0, .ref a0.1), (1, .int i0), (2, .int i1), (3, .int i2)] _ [.int r4] rfl rfl rfl rfl ?_
    refine v_if_eq (pc2 := 14) (tgt := 23) S dX9_deeds_11 (by decide) rfl (fun c6 => ?_) (fun c6 => ?_)
    · have hw := hw.1 c6
      refine v_iconst (v := -1) (pc2 := 24) S dX9_deeds_23 (by decide) rfl ?_
      exact v_iret S ⟨(-1 : Int32), v0, rfl, rfl, hw⟩ dX9_deeds_24
    · have hw := hw.2 c6
      refine v_iload_n (pc2 := 15) S 3 dX9_deeds_14 rfl rfl rfl ?_
      refine v_iconst (v := 0) (pc2 := 16) S dX9_deeds_15 (by decide) rfl ?_
      refine v_iconst (v := 1) (pc2 := 17) S dX9_deeds_16 (by decide) rfl ?_
      refine v_callS (pc2 := 20) (As := [.int i2, .int (0 : Int32), .int (1 : Int32)]) (rest := []) S (c_X9_in l G i2 (0 : Int32) (1 : Int32) _ hw) mf_X9_in u_837 u_838 rfl rfl ⟨rfl, rfl⟩ ⟨Nat.le_of_ble_eq_true rfl, Nat.le_of_ble_eq_true rfl⟩ ⟨Nat.le_of_ble_eq_true rfl, Nat.le_of_ble_eq_true rfl⟩ (Nat.le_of_ble_eq_true rfl) dX9_deeds_17 (frM [] [] _) rfl (pb (fun r7 u8 br7 hw => ?_))
      refine v_to (wMod G a0 v0) 20 [(0, .ref a0.1), (1, .int i0), (2, .int i1), (3, .int i2)] _ [.int r7] rfl rfl rfl rfl ?_
      refine v_if_ne (pc2 := 23) (tgt := 25) S dX9_deeds_20 (by decide) rfl (fun c9 => ?_) (fun c9 => ?_)
      · have hw := hw.1 c9
        refine v_aload_n (pc2 := 26) S 0 dX9_deeds_25 rfl rfl rfl ?_
        refine v_get (v := .ref a0.2.1) (pc2 := 29) S gf_X9_7 0 rfl rfl dX9_deeds_26 rfl ?_
        refine v_iconst (v := 0) (pc2 := 30) S dX9_deeds_29 (by decide) rfl ?_
        refine v_aload_n (pc2 := 31) S 0 dX9_deeds_30 rfl rfl rfl ?_
        refine v_get (v := .ref a0.2.2.1) (pc2 := 34) S gf_X9_13 0 rfl rfl dX9_deeds_31 rfl ?_
        refine v_iconst (v := 0) (pc2 := 35) S dX9_deeds_34 (by decide) rfl ?_
        refine v_callS (pc2 := 38) (As := [.ref a0.2.1, .int (0 : Int32), .ref a0.2.2.1, .int (0 : Int32)]) (rest := []) S (c_X9_copyState l G 85 85 a0.2.1 a0.2.2.1 v0.1 v0.2.1 (0 : Int32) (0 : Int32) _ hw) mf_X9_copyState u_807 u_808 rfl rfl ⟨rfl, rfl⟩ ⟨Nat.le_of_ble_eq_true rfl, Nat.le_of_ble_eq_true rfl⟩ ⟨Nat.le_of_ble_eq_true rfl, Nat.le_of_ble_eq_true rfl⟩ (Nat.le_of_ble_eq_true rfl) dX9_deeds_35 (frM ([(a0.1, .inr (9, [.ref a0.2.1, .ref a0.2.2.1, .ref a0.2.2.2.1, .int v0.2.2.2.1, .ref a0.2.2.2.2.1, .int v0.2.2.2.2.2.1, .ref a0.2.2.2.2.2.1, .int v0.2.2.2.2.2.2.2.1, .int v0.2.2.2.2.2.2.2.2.1, .int v0.2.2.2.2.2.2.2.2.2.1, .int v0.2.2.2.2.2.2.2.2.2.2.1, .int v0.2.2.2.2.2.2.2.2.2.2.2.1, .ref a0.2.2.2.2.2.2.1, .int v0.2.2.2.2.2.2.2.2.2.2.2.2.2.1, .ref a0.2.2.2.2.2.2.2.1, .ref a0.2.2.2.2.2.2.2.2, .int v0.2.2.2.2.2.2.2.2.2.2.2.2.2.2.2.2]))]) ([(a0.2.1, .inl (G.2.1, 85, .inl v0.1))] ++ [(a0.2.2.1, .inl (G.2.1, 85, .inl v0.2.1))]) (([(a0.2.2.2.1, .inl (G.2.1, 340, .inl v0.2.2.1))] : va_W) ++ (([(a0.2.2.2.2.1, .inl (G.2.1, 85, .inl v0.2.2.2.2.1))] : va_W) ++ (([(a0.2.2.2.2.2.1, .inl (G.2.1, 60, .inl v0.2.2.2.2.2.2.1))] : va_W) ++ (([(a0.2.2.2.2.2.2.1, .inl (G.2.1, 124, .inl v0.2.2.2.2.2.2.2.2.2.2.2.2.1))] : va_W) ++ (([(a0.2.2.2.2.2.2.2.1, .inl (G.2.1, 6144, .inl v0.2.2.2.2.2.2.2.2.2.2.2.2.2.2.1))] : va_W) ++ (([(a0.2.2.2.2.2.2.2.2, .inl (G.2.1, 6144, .inl v0.2.2.2.2.2.2.2.2.2.2.2.2.2.2.2.1))] : va_W)))))))) rfl (pv (fun u11 hw => ?_))
        refine v_to (wMod G a0 (v0.1, u11, v0.2.2.1, v0.2.2.2.1, v0.2.2.2.2.1, v0.2.2.2.2.2.1, v0.2.2.2.2.2.2.1, v0.2.2.2.2.2.2.2.1, v0.2.2.2.2.2.2.2.2.1, v0.2.2.2.2.2.2.2.2.2.1, v0.2.2.2.2.2.2.2.2.2.2.1, v0.2.2.2.2.2.2.2.2.2.2.2.1, v0.2.2.2.2.2.2.2.2.2.2.2.2.1, v0.2.2.2.2.2.2.2.2.2.2.2.2.2.1, v0.2.2.2.2.2.2.2.2.2.2.2.2.2.2.1, v0.2.2.2.2.2.2.2.2.2.2.2.2.2.2.2.1, v0.2.2.2.2.2.2.2.2.2.2.2.2.2.2.2.2)) 38 [(0, .ref a0.1), (1, .int i0), (2, .int i1), (3, .int i2)] _ [] rfl rfl rfl rfl ?_
        refine v_iconst (v := 0) (pc2 := 39) S dX9_deeds_38 (by decide) rfl ?_
        refine v_istore (lv2 := [(0, .ref a0.1), (1, .int i0), (2, .int i1), (3, .int i2), (4, .int (0 : Int32))]) (pc2 := 41) S dX9_deeds_39 (by decide) [1, 2, 3, 4, 0] rfl rfl ?_
        refine v_lv [(0, .ref a0.1), (1, .int i0), (2, .int i1), (4, .int (0 : Int32))] [0, 1, 2, 4] rfl ?_
        obtain ⟨kk, hw⟩ := hw
        exact L41 i0 i1 kk (0 : Int32) (v0.1, u11, v0.2.2.1, v0.2.2.2.1, v0.2.2.2.2.1, v0.2.2.2.2.2.1, v0.2.2.2.2.2.2.1, v0.2.2.2.2.2.2.2.1, v0.2.2.2.2.2.2.2.2.1, v0.2.2.2.2.2.2.2.2.2.1, v0.2.2.2.2.2.2.2.2.2.2.1, v0.2.2.2.2.2.2.2.2.2.2.2.1, v0.2.2.2.2.2.2.2.2.2.2.2.2.1, v0.2.2.2.2.2.2.2.2.2.2.2.2.2.1, v0.2.2.2.2.2.2.2.2.2.2.2.2.2.2.1, v0.2.2.2.2.2.2.2.2.2.2.2.2.2.2.2.1, v0.2.2.2.2.2.2.2.2.2.2.2.2.2.2.2.2) hw
      · have hw := hw.2 c9
        refine v_iconst (v := -1) (pc2 := 24) S dX9_deeds_23 (by decide) rfl ?_
        exact v_iret S ⟨(-1 : Int32), v0, rfl, rfl, hw⟩ dX9_deeds_24
set_option maxHeartbeats 4000000 in
set_option maxRecDepth 100000 in
theorem c_X9_cords (l : Launch) (G : GG) (a0 : ModA) (v0 : ModV) (i0 : Int32) (Q : Int32 → Prop) (hw : wp_X9_cords v0 i0 Q) : Con l G yX9_cords cX9_cords 5 (some .int) { frames := 2, cells := 0, slots := 0, locals := 43 } [.ref a0.1, .int i0] (wMod G a0 v0) (PI (fun _ : Unit => wMod G a0 v0) (fun r _ => Q r)) 0 0 := by
  refine con_of RX9 rfl (by decide) [(0, .ref a0.1), (1, .int i0)] rfl (Nat.le_of_ble_eq_true rfl) ?_
  intro p e s m args below meth c S hname
  have B42 : ∀ (x1 : Int32) (x2 : Int32) (x3 : Int32) (t0 : Int32) (t1 : Int32) (K4 : Int32 → Int32 → Prop) (hK4 : ∀ (y0 : Int32) (y1 : Int32), K4 y0 y1 → V p l e { frames := 2, cells := 0, slots := 0, locals := 43 } s m args below meth c G (va_A (wMod G a0 v0) s.heap.size) 5 0 0 (MQ below (EQ G (wMod G a0 v0) s.heap.size (PI (fun _ : Unit => wMod G a0 v0) (fun r _ => Q r))) args s 0 0 (va_A (wMod G a0 v0) s.heap.size)) (wMod G a0 v0) 4 [(0, .ref a0.1), (1, .int x1), (2, .int y0), (3, .int y1)] []), wp_X9_cords_B42 v0 x1 x2 x3 t0 t1 Q K4 → V p l e { frames := 2, cells := 0, slots := 0, locals := 43 } s m args below meth c G (va_A (wMod G a0 v0) s.heap.size) 5 0 0 (MQ below (EQ G (wMod G a0 v0) s.heap.size (PI (fun _ : Unit => wMod G a0 v0) (fun r _ => Q r))) args s 0 0 (va_A (wMod G a0 v0) s.heap.size)) (wMod G a0 v0) 42 [(0, .ref a0.1), (1, .int x1), (2, .int x2), (3, .int x3)] [.int t1, .int t0] := by
    intro x1 x2 x3 t0 t1 K4 hK4 hw
    refine v_iadd (pc2 := 43) S dX9_cords_42 rfl ?_
    refine v_nm (fun z8 ez8 => ?_)
    have hw := hw z8 ez8
    refine v_istore (lv2 := [(0, .ref a0.1), (1, .int x1), (2, .int x2), (3, .int x3), (4, .int z8)]) (pc2 := 45) S dX9_cords_43 (by decide) [1, 2, 3, 4, 0] rfl rfl ?_
    refine v_iload_n (pc2 := 46) S 2 dX9_cords_45 rfl rfl rfl ?_
    refine v_aload_n (pc2 := 47) S 0 dX9_cords_46 rfl rfl rfl ?_
    refine v_iload_n (pc2 := 48) S 3 dX9_cords_47 rfl rfl rfl ?_
    refine v_callV (pc2 := 51) (As := [.int x3]) (rest := [.int x2]) S (c_X9_isOpen l G a0 v0 x3 _ hw) mf_X9_isOpen u_848 u_850 u_22 0 9 rfl rfl rfl rfl ⟨rfl, rfl⟩ ⟨Nat.le_of_ble_eq_true rfl, Nat.le_of_ble_eq_true rfl⟩ ⟨Nat.le_of_ble_eq_true rfl, Nat.le_of_ble_eq_true rfl⟩ (Nat.le_of_ble_eq_true rfl) dX9_cords_48 (frW _) rfl (pb (fun r9 u10 br9 hw => ?_))
    refine v_to (wMod G a0 v0) 51 [(0, .ref a0.1), (1, .int x1), (2, .int x2), (3, .int x3), (4, .int z8)] _ [.int r9, .int x2] rfl rfl rfl rfl ?_
    refine v_iload_n (pc2 := 52) S 1 dX9_cords_51 rfl rfl rfl ?_
    refine v_icmp_ne (pc2 := 55) (tgt := 60) S dX9_cords_52 (by decide) rfl (fun c11 => ?_) (fun c11 => ?_)
    · have hw := hw.1 c11
      refine v_iconst (v := 0) (pc2 := 61) S dX9_cords_60 (by decide) rfl ?_
      refine v_iadd (pc2 := 62) S dX9_cords_61 rfl ?_
      refine v_nm (fun z12 ez12 => ?_)
      have hw := hw z12 ez12
      refine v_istore_n (lv2 := [(0, .ref a0.1), (1, .int x1), (2, .int z12), (3, .int x3), (4, .int z8)]) (pc2 := 63) S dX9_cords_62 rfl (by decide) [1, 2, 0, 3, 4] rfl rfl ?_
      obtain ⟨z13, ez13⟩ : ∃ y : Int32, y = x3 + (1 : Int32) := ⟨_, rfl⟩
      have hw := hw z13 ez13
      refine v_iinc (v := z13) (lv2 := [(0, .ref a0.1), (1, .int x1), (2, .int z12), (3, .int z13), (4, .int z8)]) (pc2 := 66) S 3 dX9_cords_63 rfl (by rw [ez13]; rfl) (by decide) [1, 2, 3, 0, 4] rfl rfl ?_
      refine v_goto (tgt := 4) S dX9_cords_66 (by decide) ?_
      refine v_lv [(0, .ref a0.1), (1, .int x1), (2, .int z12), (3, .int z13)] [0, 1, 2, 3] rfl ?_
      exact hK4 z12 z13 hw
    · have hw := hw.2 c11
      refine v_iload (pc2 := 57) S 4 dX9_cords_55 rfl rfl ?_
      refine v_goto (tgt := 61) S dX9_cords_57 (by decide) ?_
      refine v_iadd (pc2 := 62) S dX9_cords_61 rfl ?_
      refine v_nm (fun z14 ez14 => ?_)
      have hw := hw z14 ez14
      refine v_istore_n (lv2 := [(0, .ref a0.1), (1, .int x1), (2, .int z14), (3, .int x3), (4, .int z8)]) (pc2 := 63) S dX9_cords_62 rfl (by decide) [1, 2, 0, 3, 4] rfl rfl ?_
      obtain ⟨z15, ez15⟩ : ∃ y : Int32, y = x3 + (1 : Int32) := ⟨_, rfl⟩
      have hw := hw z15 ez15
      refine v_iinc (v := z15) (lv2 := [(0, .ref a0.1), (1, .int x1), (2, .int z14), (3, .int z15), (4, .int z8)]) (pc2 := 66) S 3 dX9_cords_63 rfl (by rw [ez15]; rfl) (by decide) [1, 2, 3, 0, 4] rfl rfl ?_
      refine v_goto (tgt := 4) S dX9_cords_66 (by decide) ?_
      refine v_lv [(0, .ref a0.1), (1, .int x1), (2, .int z14), (3, .int z15)] [0, 1, 2, 3] rfl ?_
      exact hK4 z14 z15 hw
  have B26 : ∀ (x1 : Int32) (x2 : Int32) (x3 : Int32) (t0 : Int32) (K4 : Int32 → Int32 → Prop) (hK4 : ∀ (y0 : Int32) (y1 : Int32), K4 y0 y1 → V p l e { frames := 2, cells := 0, slots := 0, locals := 43 } s m args below meth c G (va_A (wMod G a0 v0) s.heap.size) 5 0 0 (MQ below (EQ G (wMod G a0 v0) s.heap.size (PI (fun _ : Unit => wMod G a0 v0) (fun r _ => Q r))) args s 0 0 (va_A (wMod G a0 v0) s.heap.size)) (wMod G a0 v0) 4 [(0, .ref a0.1), (1, .int x1), (2, .int y0), (3, .int y1)] []), wp_X9_cords_B26 v0 x1 x2 x3 t0 Q K4 → V p l e { frames := 2, cells := 0, slots := 0, locals := 43 } s m args below meth c G (va_A (wMod G a0 v0) s.heap.size) 5 0 0 (MQ below (EQ G (wMod G a0 v0) s.heap.size (PI (fun _ : Unit => wMod G a0 v0) (fun r _ => Q r))) args s 0 0 (va_A (wMod G a0 v0) s.heap.size)) (wMod G a0 v0) 26 [(0, .ref a0.1), (1, .int x1), (2, .int x2), (3, .int x3)] [.int t0] := by
    intro x1 x2 x3 t0 K4 hK4 hw
    refine v_aload_n (pc2 := 27) S 0 dX9_cords_26 rfl rfl rfl ?_
    refine v_iload_n (pc2 := 28) S 3 dX9_cords_27 rfl rfl rfl ?_
    refine v_iconst (v := 4) (pc2 := 29) S dX9_cords_28 (by decide) rfl ?_
    refine v_callV (pc2 := 32) (As := [.int x3, .int (4 : Int32)]) (rest := [.int t0]) S (c_X9_of l G a0 v0 x3 (4 : Int32) _ hw) mf_X9_of u_818 u_820 u_18 0 9 rfl rfl rfl rfl ⟨rfl, rfl⟩ ⟨Nat.le_of_ble_eq_true rfl, Nat.le_of_ble_eq_true rfl⟩ ⟨Nat.le_of_ble_eq_true rfl, Nat.le_of_ble_eq_true rfl⟩ (Nat.le_of_ble_eq_true rfl) dX9_cords_29 (frW _) rfl (pi (fun r5 u6 hw => ?_))
    refine v_to (wMod G a0 v0) 32 [(0, .ref a0.1), (1, .int x1), (2, .int x2), (3, .int x3)] _ [.int r5, .int t0] rfl rfl rfl rfl ?_
    refine v_bipush (v := -4) (pc2 := 34) S dX9_cords_32 (by decide) rfl ?_
    refine v_icmp_ne (pc2 := 37) (tgt := 41) S dX9_cords_34 (by decide) rfl (fun c7 => ?_) (fun c7 => ?_)
    · have hw := hw.1 c7
      refine v_iconst (v := 1) (pc2 := 42) S dX9_cords_41 (by decide) rfl ?_
      exact B42 x1 x2 x3 t0 (1 : Int32) K4 hK4 hw
    · have hw := hw.2 c7
      refine v_iconst (v := 0) (pc2 := 38) S dX9_cords_37 (by decide) rfl ?_
      refine v_goto (tgt := 42) S dX9_cords_38 (by decide) ?_
      exact B42 x1 x2 x3 t0 (0 : Int32) K4 hK4 hw
  have L4 : ∀ (x1 : Int32) (kk : Nat) (x2 : Int32) (x3 : Int32), wp_X9_cords_L4 v0 x1 Q kk x2 x3 → V p l e { frames := 2, cells := 0, slots := 0, locals := 43 } s m args below meth c G (va_A (wMod G a0 v0) s.heap.size) 5 0 0 (MQ below (EQ G (wMod G a0 v0) s.heap.size (PI (fun _ : Unit => wMod G a0 v0) (fun r _ => Q r))) args s 0 0 (va_A (wMod G a0 v0) s.heap.size)) (wMod G a0 v0) 4 [(0, .ref a0.1), (1, .int x1), (2, .int x2), (3, .int x3)] [] := by
    intro x1 kk
    induction kk with
    | zero => intro x2 x3 hw; exact hw.elim
    | succ n ih =>
      intro x2 x3 hw
      refine v_iload_n (pc2 := 5) S 3 dX9_cords_4 rfl rfl rfl ?_
      refine v_bipush (v := 10) (pc2 := 7) S dX9_cords_5 (by decide) rfl ?_
      refine v_icmp_ge (pc2 := 10) (tgt := 69) S dX9_cords_7 (by decide) rfl (fun c1 => ?_) (fun c1 => ?_)
      · have hw := hw.1 c1
        refine v_iload_n (pc2 := 70) S 2 dX9_cords_69 rfl rfl rfl ?_
        exact v_iret S ⟨x2, (), rfl, rfl, hw⟩ dX9_cords_70
      · have hw := hw.2 c1
        refine v_aload_n (pc2 := 11) S 0 dX9_cords_10 rfl rfl rfl ?_
        refine v_iload_n (pc2 := 12) S 3 dX9_cords_11 rfl rfl rfl ?_
        refine v_iconst (v := 3) (pc2 := 13) S dX9_cords_12 (by decide) rfl ?_
        refine v_callV (pc2 := 16) (As := [.int x3, .int (3 : Int32)]) (rest := []) S (c_X9_of l G a0 v0 x3 (3 : Int32) _ hw) mf_X9_of u_818 u_820 u_18 0 9 rfl rfl rfl rfl ⟨rfl, rfl⟩ ⟨Nat.le_of_ble_eq_true rfl, Nat.le_of_ble_eq_true rfl⟩ ⟨Nat.le_of_ble_eq_true rfl, Nat.le_of_ble_eq_true rfl⟩ (Nat.le_of_ble_eq_true rfl) dX9_cords_13 (frW _) rfl (pi (fun r2 u3 hw => ?_))
        refine v_to (wMod G a0 v0) 16 [(0, .ref a0.1), (1, .int x1), (2, .int x2), (3, .int x3)] _ [.int r2] rfl rfl rfl rfl ?_
        refine v_bipush (v := -4) (pc2 := 18) S dX9_cords_16 (by decide) rfl ?_
        refine v_icmp_ne (pc2 := 21) (tgt := 25) S dX9_cords_18 (by decide) rfl (fun c4 => ?_) (fun c4 => ?_)
        · have hw := hw.1 c4
          refine v_iconst (v := 1) (pc2 := 26) S dX9_cords_25 (by decide) rfl ?_
          exact B26 x1 x2 x3 (1 : Int32) (wp_X9_cords_L4 v0 x1 Q n) ih hw
        · have hw := hw.2 c4
          refine v_iconst (v := 0) (pc2 := 22) S dX9_cords_21 (by decide) rfl ?_
          refine v_goto (tgt := 26) S dX9_cords_22 (by decide) ?_
          exact B26 x1 x2 x3 (0 : Int32) (wp_X9_cords_L4 v0 x1 Q n) ih hw
  refine v_iconst (v := 0) (pc2 := 1) S dX9_cords_0 (by decide) rfl ?_
  refine v_istore_n (lv2 := [(0, .ref a0.1), (1, .int i0), (2, .int (0 : Int32))]) (pc2 := 2) S dX9_cords_1 rfl (by decide) [1, 2, 0] rfl rfl ?_
  refine v_iconst (v := 0) (pc2 := 3) S dX9_cords_2 (by decide) rfl ?_
  refine v_istore_n (lv2 := [(0, .ref a0.1), (1, .int i0), (2, .int (0 : Int32)), (3, .int (0 : Int32))]) (pc2 := 4) S dX9_cords_3 rfl (by decide) [1, 2, 3, 0] rfl rfl ?_
  obtain ⟨kk, hw⟩ := hw
  exact L4 i0 kk (0 : Int32) (0 : Int32) hw
set_option maxHeartbeats 4000000 in
set_option maxRecDepth 100000 in
theorem c_X9_held (l : Launch) (G : GG) (a0 : ModA) (v0 : ModV) (Q : Int32 → Prop) (hw : wp_X9_held v0 Q) : Con l G yX9_held cX9_held 3 (some .int) { frames := 3, cells := 0, slots := 0, locals := 68 } [.ref a0.1] (wMod G a0 v0) (PI (fun _ : Unit => wMod G a0 v0) (fun r _ => Q r)) 0 0 := by
  refine con_of RX9 rfl (by decide) [(0, .ref a0.1)] rfl (Nat.le_of_ble_eq_true rfl) ?_
  intro p e s m args below meth c S hname
  have L4 : ∀ (kk : Nat) (x1 : Int32) (x2 : Int32), wp_X9_held_L4 v0 Q kk x1 x2 → V p l e { frames := 3, cells := 0, slots := 0, locals := 68 } s m args below meth c G (va_A (wMod G a0 v0) s.heap.size) 3 0 0 (MQ below (EQ G (wMod G a0 v0) s.heap.size (PI (fun _ : Unit => wMod G a0 v0) (fun r _ => Q r))) args s 0 0 (va_A (wMod G a0 v0) s.heap.size)) (wMod G a0 v0) 4 [(0, .ref a0.1), (1, .int x1), (2, .int x2)] [] := by
    intro kk
    induction kk with
    | zero => intro x1 x2 hw; exact hw.elim
    | succ n ih =>
      intro x1 x2 hw
      refine v_iload_n (pc2 := 5) S 2 dX9_held_4 rfl rfl rfl ?_
      refine v_bipush (v := 10) (pc2 := 7) S dX9_held_5 (by decide) rfl ?_
      refine v_icmp_ge (pc2 := 10) (tgt := 33) S dX9_held_7 (by decide) rfl (fun c1 => ?_) (fun c1 => ?_)
      · have hw := hw.1 c1
        refine v_iload_n (pc2 := 34) S 1 dX9_held_33 rfl rfl rfl ?_
        exact v_iret S ⟨x1, (), rfl, rfl, hw⟩ dX9_held_34
      · have hw := hw.2 c1
        refine v_iload_n (pc2 := 11) S 1 dX9_held_10 rfl rfl rfl ?_
        refine v_aload_n (pc2 := 12) S 0 dX9_held_11 rfl rfl rfl ?_
        refine v_iload_n (pc2 := 13) S 2 dX9_held_12 rfl rfl rfl ?_
        refine v_iconst (v := 1) (pc2 := 14) S dX9_held_13 (by decide) rfl ?_
        refine v_callV (pc2 := 17) (As := [.int x2, .int (1 : Int32)]) (rest := [.int x1]) S (c_X9_cordsTo l G a0 v0 x2 (1 : Int32) _ hw) mf_X9_cordsTo u_852 u_854 u_23 0 9 rfl rfl rfl rfl ⟨rfl, rfl⟩ ⟨Nat.le_of_ble_eq_true rfl, Nat.le_of_ble_eq_true rfl⟩ ⟨Nat.le_of_ble_eq_true rfl, Nat.le_of_ble_eq_true rfl⟩ (Nat.le_of_ble_eq_true rfl) dX9_held_14 (frW _) rfl (pi (fun r2 u3 hw => ?_))
        refine v_to (wMod G a0 v0) 17 [(0, .ref a0.1), (1, .int x1), (2, .int x2)] _ [.int r2, .int x1] rfl rfl rfl rfl ?_
        refine v_if_le (pc2 := 20) (tgt := 24) S dX9_held_17 (by decide) rfl (fun c4 => ?_) (fun c4 => ?_)
        · have hw := hw.1 c4
          refine v_iconst (v := 0) (pc2 := 25) S dX9_held_24 (by decide) rfl ?_
          refine v_iadd (pc2 := 26) S dX9_held_25 rfl ?_
          refine v_nm (fun z5 ez5 => ?_)
          have hw := hw z5 ez5
          refine v_istore_n (lv2 := [(0, .ref a0.1), (1, .int z5), (2, .int x2)]) (pc2 := 27) S dX9_held_26 rfl (by decide) [1, 0, 2] rfl rfl ?_
          obtain ⟨z6, ez6⟩ : ∃ y : Int32, y = x2 + (1 : Int32) := ⟨_, rfl⟩
          have hw := hw z6 ez6
          refine v_iinc (v := z6) (lv2 := [(0, .ref a0.1), (1, .int z5), (2, .int z6)]) (pc2 := 30) S 2 dX9_held_27 rfl (by rw [ez6]; rfl) (by decide) [1, 2, 0] rfl rfl ?_
          refine v_goto (tgt := 4) S dX9_held_30 (by decide) ?_
          exact ih z5 z6 hw
        · have hw := hw.2 c4
          refine v_iconst (v := 1) (pc2 := 21) S dX9_held_20 (by decide) rfl ?_
          refine v_goto (tgt := 25) S dX9_held_21 (by decide) ?_
          refine v_iadd (pc2 := 26) S dX9_held_25 rfl ?_
          refine v_nm (fun z7 ez7 => ?_)
          have hw := hw z7 ez7
          refine v_istore_n (lv2 := [(0, .ref a0.1), (1, .int z7), (2, .int x2)]) (pc2 := 27) S dX9_held_26 rfl (by decide) [1, 0, 2] rfl rfl ?_
          obtain ⟨z8, ez8⟩ : ∃ y : Int32, y = x2 + (1 : Int32) := ⟨_, rfl⟩
          have hw := hw z8 ez8
          refine v_iinc (v := z8) (lv2 := [(0, .ref a0.1), (1, .int z7), (2, .int z8)]) (pc2 := 30) S 2 dX9_held_27 rfl (by rw [ez8]; rfl) (by decide) [1, 2, 0] rfl rfl ?_
          refine v_goto (tgt := 4) S dX9_held_30 (by decide) ?_
          exact ih z7 z8 hw
  refine v_iconst (v := 0) (pc2 := 1) S dX9_held_0 (by decide) rfl ?_
  refine v_istore_n (lv2 := [(0, .ref a0.1), (1, .int (0 : Int32))]) (pc2 := 2) S dX9_held_1 rfl (by decide) [1, 0] rfl rfl ?_
  refine v_iconst (v := 0) (pc2 := 3) S dX9_held_2 (by decide) rfl ?_
  refine v_istore_n (lv2 := [(0, .ref a0.1), (1, .int (0 : Int32)), (2, .int (0 : Int32))]) (pc2 := 4) S dX9_held_3 rfl (by decide) [1, 2, 0] rfl rfl ?_
  obtain ⟨kk, hw⟩ := hw
  exact L4 kk (0 : Int32) (0 : Int32) hw
set_option maxHeartbeats 4000000 in
set_option maxRecDepth 100000 in
theorem c_X9_pairsOfHalls (l : Launch) (G : GG) (a0 : ModA) (v0 : ModV) (Q : Int32 → Prop) (hw : wp_X9_pairsOfHalls v0 Q) : Con l G yX9_pairsOfHalls cX9_pairsOfHalls 3 (some .int) { frames := 3, cells := 0, slots := 0, locals := 68 } [.ref a0.1] (wMod G a0 v0) (PI (fun _ : Unit => wMod G a0 v0) (fun r _ => Q r)) 0 0 := by
  refine con_of RX9 rfl (by decide) [(0, .ref a0.1)] rfl (Nat.le_of_ble_eq_true rfl) ?_
  intro p e s m args below meth c S hname
  have L4 : ∀ (kk : Nat) (x1 : Int32) (x2 : Int32), wp_X9_pairsOfHalls_L4 v0 Q kk x1 x2 → V p l e { frames := 3, cells := 0, slots := 0, locals := 68 } s m args below meth c G (va_A (wMod G a0 v0) s.heap.size) 3 0 0 (MQ below (EQ G (wMod G a0 v0) s.heap.size (PI (fun _ : Unit => wMod G a0 v0) (fun r _ => Q r))) args s 0 0 (va_A (wMod G a0 v0) s.heap.size)) (wMod G a0 v0) 4 [(0, .ref a0.1), (1, .int x1), (2, .int x2)] [] := by
    intro kk
    induction kk with
    | zero => intro x1 x2 hw; exact hw.elim
    | succ n ih =>
      intro x1 x2 hw
      refine v_iload_n (pc2 := 5) S 2 dX9_pairsOfHalls_4 rfl rfl rfl ?_
      refine v_bipush (v := 6) (pc2 := 7) S dX9_pairsOfHalls_5 (by decide) rfl ?_
      refine v_icmp_ge (pc2 := 10) (tgt := 29) S dX9_pairsOfHalls_7 (by decide) rfl (fun c1 => ?_) (fun c1 => ?_)
      · have hw := hw.1 c1
        refine v_iload_n (pc2 := 30) S 1 dX9_pairsOfHalls_29 rfl rfl rfl ?_
        refine v_iconst (v := 2) (pc2 := 31) S dX9_pairsOfHalls_30 (by decide) rfl ?_
        refine v_idiv (pc2 := 32) S (by decide) dX9_pairsOfHalls_31 rfl ?_
        exact v_iret S ⟨x1 / (2 : Int32), (), rfl, rfl, hw⟩ dX9_pairsOfHalls_32
      · have hw := hw.2 c1
        refine v_iload_n (pc2 := 11) S 1 dX9_pairsOfHalls_10 rfl rfl rfl ?_
        refine v_aload_n (pc2 := 12) S 0 dX9_pairsOfHalls_11 rfl rfl rfl ?_
        refine v_iload_n (pc2 := 13) S 2 dX9_pairsOfHalls_12 rfl rfl rfl ?_
        refine v_callV (pc2 := 16) (As := [.int x2]) (rest := [.int x1]) S (c_X9_hangs l G a0 v0 x2 _ hw) mf_X9_hangs u_1022 u_1024 u_49 0 9 rfl rfl rfl rfl ⟨rfl, rfl⟩ ⟨Nat.le_of_ble_eq_true rfl, Nat.le_of_ble_eq_true rfl⟩ ⟨Nat.le_of_ble_eq_true rfl, Nat.le_of_ble_eq_true rfl⟩ (Nat.le_of_ble_eq_true rfl) dX9_pairsOfHalls_13 (frW _) rfl (pi (fun r2 u3 hw => ?_))
        refine v_to (wMod G a0 v0) 16 [(0, .ref a0.1), (1, .int x1), (2, .int x2)] _ [.int r2, .int x1] rfl rfl rfl rfl ?_
        refine v_callS (pc2 := 19) (As := [.int r2]) (rest := [.int x1]) S (c_X9_size l G r2 _ hw) mf_X9_size u_1026 u_1027 rfl rfl ⟨rfl, rfl⟩ ⟨Nat.le_of_ble_eq_true rfl, Nat.le_of_ble_eq_true rfl⟩ ⟨Nat.le_of_ble_eq_true rfl, Nat.le_of_ble_eq_true rfl⟩ (Nat.le_of_ble_eq_true rfl) dX9_pairsOfHalls_16 (frM [] [] _) rfl (pi (fun r4 u5 hw => ?_))
        refine v_to (wMod G a0 v0) 19 [(0, .ref a0.1), (1, .int x1), (2, .int x2)] _ [.int r4, .int x1] rfl rfl rfl rfl ?_
        refine v_iconst (v := 1) (pc2 := 20) S dX9_pairsOfHalls_19 (by decide) rfl ?_
        refine v_isub (pc2 := 21) S dX9_pairsOfHalls_20 rfl ?_
        refine v_iadd (pc2 := 22) S dX9_pairsOfHalls_21 rfl ?_
        refine v_nm (fun z6 ez6 => ?_)
        have hw := hw z6 ez6
        refine v_istore_n (lv2 := [(0, .ref a0.1), (1, .int z6), (2, .int x2)]) (pc2 := 23) S dX9_pairsOfHalls_22 rfl (by decide) [1, 0, 2] rfl rfl ?_
        obtain ⟨z7, ez7⟩ : ∃ y : Int32, y = x2 + (1 : Int32) := ⟨_, rfl⟩
        have hw := hw z7 ez7
        refine v_iinc (v := z7) (lv2 := [(0, .ref a0.1), (1, .int z6), (2, .int z7)]) (pc2 := 26) S 2 dX9_pairsOfHalls_23 rfl (by rw [ez7]; rfl) (by decide) [1, 2, 0] rfl rfl ?_
        refine v_goto (tgt := 4) S dX9_pairsOfHalls_26 (by decide) ?_
        exact ih z6 z7 hw
  refine v_iconst (v := 0) (pc2 := 1) S dX9_pairsOfHalls_0 (by decide) rfl ?_
  refine v_istore_n (lv2 := [(0, .ref a0.1), (1, .int (0 : Int32))]) (pc2 := 2) S dX9_pairsOfHalls_1 rfl (by decide) [1, 0] rfl rfl ?_
  refine v_iconst (v := 0) (pc2 := 3) S dX9_pairsOfHalls_2 (by decide) rfl ?_
  refine v_istore_n (lv2 := [(0, .ref a0.1), (1, .int (0 : Int32)), (2, .int (0 : Int32))]) (pc2 := 4) S dX9_pairsOfHalls_3 rfl (by decide) [1, 2, 0] rfl rfl ?_
  obtain ⟨kk, hw⟩ := hw
  exact L4 kk (0 : Int32) (0 : Int32) hw
set_option maxHeartbeats 4000000 in
set_option maxRecDepth 100000 in
theorem c_X9_pairsOfDoors (l : Launch) (G : GG) (a0 : ModA) (v0 : ModV) (Q : Int32 → Prop) (hw : wp_X9_pairsOfDoors v0 Q) : Con l G yX9_pairsOfDoors cX9_pairsOfDoors 4 (some .int) { frames := 2, cells := 0, slots := 0, locals := 44 } [.ref a0.1] (wMod G a0 v0) (PI (fun _ : Unit => wMod G a0 v0) (fun r _ => Q r)) 0 0 := by
  refine con_of RX9 rfl (by decide) [(0, .ref a0.1)] rfl (Nat.le_of_ble_eq_true rfl) ?_
  intro p e s m args below meth c S hname
  have L12 : ∀ (x2 : Int32) (K4 : Int32 → Int32 → Prop) (hK4 : ∀ (y0 : Int32) (y1 : Int32), K4 y0 y1 → V p l e { frames := 2, cells := 0, slots := 0, locals := 44 } s m args below meth c G (va_A (wMod G a0 v0) s.heap.size) 4 0 0 (MQ below (EQ G (wMod G a0 v0) s.heap.size (PI (fun _ : Unit => wMod G a0 v0) (fun r _ => Q r))) args s 0 0 (va_A (wMod G a0 v0) s.heap.size)) (wMod G a0 v0) 4 [(0, .ref a0.1), (1, .int y0), (2, .int y1)] []) (kk : Nat) (x1 : Int32) (x3 : Int32), wp_X9_pairsOfDoors_L12 v0 x2 Q K4 kk x1 x3 → V p l e { frames := 2, cells := 0, slots := 0, locals := 44 } s m args below meth c G (va_A (wMod G a0 v0) s.heap.size) 4 0 0 (MQ below (EQ G (wMod G a0 v0) s.heap.size (PI (fun _ : Unit => wMod G a0 v0) (fun r _ => Q r))) args s 0 0 (va_A (wMod G a0 v0) s.heap.size)) (wMod G a0 v0) 12 [(0, .ref a0.1), (1, .int x1), (2, .int x2), (3, .int x3)] [] := by
    intro x2 K4 hK4 kk
    induction kk with
    | zero => intro x1 x3 hw; exact hw.elim
    | succ n ih =>
      intro x1 x3 hw
      refine v_iload_n (pc2 := 13) S 3 dX9_pairsOfDoors_12 rfl rfl rfl ?_
      refine v_iload_n (pc2 := 14) S 2 dX9_pairsOfDoors_13 rfl rfl rfl ?_
      refine v_icmp_ge (pc2 := 17) (tgt := 49) S dX9_pairsOfDoors_14 (by decide) rfl (fun c2 => ?_) (fun c2 => ?_)
      · have hw := hw.1 c2
        obtain ⟨z3, ez3⟩ : ∃ y : Int32, y = x2 + (1 : Int32) := ⟨_, rfl⟩
        have hw := hw z3 ez3
        refine v_iinc (v := z3) (lv2 := [(0, .ref a0.1), (1, .int x1), (2, .int z3), (3, .int x3)]) (pc2 := 52) S 2 dX9_pairsOfDoors_49 rfl (by rw [ez3]; rfl) (by decide) [1, 2, 0, 3] rfl rfl ?_
        refine v_goto (tgt := 4) S dX9_pairsOfDoors_52 (by decide) ?_
        refine v_lv [(0, .ref a0.1), (1, .int x1), (2, .int z3)] [0, 1, 2] rfl ?_
        exact hK4 x1 z3 hw
      · have hw := hw.2 c2
        refine v_iload_n (pc2 := 18) S 1 dX9_pairsOfDoors_17 rfl rfl rfl ?_
        refine v_aload_n (pc2 := 19) S 0 dX9_pairsOfDoors_18 rfl rfl rfl ?_
        refine v_iload_n (pc2 := 20) S 2 dX9_pairsOfDoors_19 rfl rfl rfl ?_
        refine v_iload_n (pc2 := 21) S 3 dX9_pairsOfDoors_20 rfl rfl rfl ?_
        refine v_callV (pc2 := 24) (As := [.int x2, .int x3]) (rest := [.int x1]) S (c_X9_goesTo l G a0 v0 x2 x3 _ hw) mf_X9_goesTo u_856 u_858 u_24 0 9 rfl rfl rfl rfl ⟨rfl, rfl⟩ ⟨Nat.le_of_ble_eq_true rfl, Nat.le_of_ble_eq_true rfl⟩ ⟨Nat.le_of_ble_eq_true rfl, Nat.le_of_ble_eq_true rfl⟩ (Nat.le_of_ble_eq_true rfl) dX9_pairsOfDoors_21 (frW _) rfl (pb (fun r4 u5 br4 hw => ?_))
        refine v_to (wMod G a0 v0) 24 [(0, .ref a0.1), (1, .int x1), (2, .int x2), (3, .int x3)] _ [.int r4, .int x1] rfl rfl rfl rfl ?_
        refine v_if_eq (pc2 := 27) (tgt := 40) S dX9_pairsOfDoors_24 (by decide) rfl (fun c6 => ?_) (fun c6 => ?_)
        · have hw := hw.1 c6
          refine v_iconst (v := 0) (pc2 := 41) S dX9_pairsOfDoors_40 (by decide) rfl ?_
          refine v_iadd (pc2 := 42) S dX9_pairsOfDoors_41 rfl ?_
          refine v_nm (fun z7 ez7 => ?_)
          have hw := hw z7 ez7
          refine v_istore_n (lv2 := [(0, .ref a0.1), (1, .int z7), (2, .int x2), (3, .int x3)]) (pc2 := 43) S dX9_pairsOfDoors_42 rfl (by decide) [1, 0, 2, 3] rfl rfl ?_
          obtain ⟨z8, ez8⟩ : ∃ y : Int32, y = x3 + (1 : Int32) := ⟨_, rfl⟩
          have hw := hw z8 ez8
          refine v_iinc (v := z8) (lv2 := [(0, .ref a0.1), (1, .int z7), (2, .int x2), (3, .int z8)]) (pc2 := 46) S 3 dX9_pairsOfDoors_43 rfl (by rw [ez8]; rfl) (by decide) [1, 2, 3, 0] rfl rfl ?_
          refine v_goto (tgt := 12) S dX9_pairsOfDoors_46 (by decide) ?_
          exact ih z7 z8 hw
        · have hw := hw.2 c6
          refine v_aload_n (pc2 := 28) S 0 dX9_pairsOfDoors_27 rfl rfl rfl ?_
          refine v_iload_n (pc2 := 29) S 3 dX9_pairsOfDoors_28 rfl rfl rfl ?_
          refine v_iload_n (pc2 := 30) S 2 dX9_pairsOfDoors_29 rfl rfl rfl ?_
          refine v_callV (pc2 := 33) (As := [.int x3, .int x2]) (rest := [.int x1]) S (c_X9_goesTo l G a0 v0 x3 x2 _ hw) mf_X9_goesTo u_856 u_858 u_24 0 9 rfl rfl rfl rfl ⟨rfl, rfl⟩ ⟨Nat.le_of_ble_eq_true rfl, Nat.le_of_ble_eq_true rfl⟩ ⟨Nat.le_of_ble_eq_true rfl, Nat.le_of_ble_eq_true rfl⟩ (Nat.le_of_ble_eq_true rfl) dX9_pairsOfDoors_30 (frW _) rfl (pb (fun r9 u10 br9 hw => ?_))
          refine v_to (wMod G a0 v0) 33 [(0, .ref a0.1), (1, .int x1), (2, .int x2), (3, .int x3)] _ [.int r9, .int x1] rfl rfl rfl rfl ?_
          refine v_if_eq (pc2 := 36) (tgt := 40) S dX9_pairsOfDoors_33 (by decide) rfl (fun c11 => ?_) (fun c11 => ?_)
          · have hw := hw.1 c11
            refine v_iconst (v := 0) (pc2 := 41) S dX9_pairsOfDoors_40 (by decide) rfl ?_
            refine v_iadd (pc2 := 42) S dX9_pairsOfDoors_41 rfl ?_
            refine v_nm (fun z12 ez12 => ?_)
            have hw := hw z12 ez12
            refine v_istore_n (lv2 := [(0, .ref a0.1), (1, .int z12), (2, .int x2), (3, .int x3)]) (pc2 := 43) S dX9_pairsOfDoors_42 rfl (by decide) [1, 0, 2, 3] rfl rfl ?_
            obtain ⟨z13, ez13⟩ : ∃ y : Int32, y = x3 + (1 : Int32) := ⟨_, rfl⟩
            have hw := hw z13 ez13
            refine v_iinc (v := z13) (lv2 := [(0, .ref a0.1), (1, .int z12), (2, .int x2), (3, .int z13)]) (pc2 := 46) S 3 dX9_pairsOfDoors_43 rfl (by rw [ez13]; rfl) (by decide) [1, 2, 3, 0] rfl rfl ?_
            refine v_goto (tgt := 12) S dX9_pairsOfDoors_46 (by decide) ?_
            exact ih z12 z13 hw
          · have hw := hw.2 c11
            refine v_iconst (v := 1) (pc2 := 37) S dX9_pairsOfDoors_36 (by decide) rfl ?_
            refine v_goto (tgt := 41) S dX9_pairsOfDoors_37 (by decide) ?_
            refine v_iadd (pc2 := 42) S dX9_pairsOfDoors_41 rfl ?_
            refine v_nm (fun z14 ez14 => ?_)
            have hw := hw z14 ez14
            refine v_istore_n (lv2 := [(0, .ref a0.1), (1, .int z14), (2, .int x2), (3, .int x3)]) (pc2 := 43) S dX9_pairsOfDoors_42 rfl (by decide) [1, 0, 2, 3] rfl rfl ?_
            obtain ⟨z15, ez15⟩ : ∃ y : Int32, y = x3 + (1 : Int32) := ⟨_, rfl⟩
            have hw := hw z15 ez15
            refine v_iinc (v := z15) (lv2 := [(0, .ref a0.1), (1, .int z14), (2, .int x2), (3, .int z15)]) (pc2 := 46) S 3 dX9_pairsOfDoors_43 rfl (by rw [ez15]; rfl) (by decide) [1, 2, 3, 0] rfl rfl ?_
            refine v_goto (tgt := 12) S dX9_pairsOfDoors_46 (by decide) ?_
            exact ih z14 z15 hw
  have L4 : ∀ (kk : Nat) (x1 : Int32) (x2 : Int32), wp_X9_pairsOfDoors_L4 v0 Q kk x1 x2 → V p l e { frames := 2, cells := 0, slots := 0, locals := 44 } s m args below meth c G (va_A (wMod G a0 v0) s.heap.size) 4 0 0 (MQ below (EQ G (wMod G a0 v0) s.heap.size (PI (fun _ : Unit => wMod G a0 v0) (fun r _ => Q r))) args s 0 0 (va_A (wMod G a0 v0) s.heap.size)) (wMod G a0 v0) 4 [(0, .ref a0.1), (1, .int x1), (2, .int x2)] [] := by
    intro kk
    induction kk with
    | zero => intro x1 x2 hw; exact hw.elim
    | succ n ih =>
      intro x1 x2 hw
      refine v_iload_n (pc2 := 5) S 2 dX9_pairsOfDoors_4 rfl rfl rfl ?_
      refine v_bipush (v := 10) (pc2 := 7) S dX9_pairsOfDoors_5 (by decide) rfl ?_
      refine v_icmp_ge (pc2 := 10) (tgt := 55) S dX9_pairsOfDoors_7 (by decide) rfl (fun c1 => ?_) (fun c1 => ?_)
      · have hw := hw.1 c1
        refine v_iload_n (pc2 := 56) S 1 dX9_pairsOfDoors_55 rfl rfl rfl ?_
        exact v_iret S ⟨x1, (), rfl, rfl, hw⟩ dX9_pairsOfDoors_56
      · have hw := hw.2 c1
        refine v_iconst (v := 0) (pc2 := 11) S dX9_pairsOfDoors_10 (by decide) rfl ?_
        refine v_istore_n (lv2 := [(0, .ref a0.1), (1, .int x1), (2, .int x2), (3, .int (0 : Int32))]) (pc2 := 12) S dX9_pairsOfDoors_11 rfl (by decide) [1, 2, 3, 0] rfl rfl ?_
        obtain ⟨kk, hw⟩ := hw
        exact L12 x2 (wp_X9_pairsOfDoors_L4 v0 Q n) ih kk x1 (0 : Int32) hw
  refine v_iconst (v := 0) (pc2 := 1) S dX9_pairsOfDoors_0 (by decide) rfl ?_
  refine v_istore_n (lv2 := [(0, .ref a0.1), (1, .int (0 : Int32))]) (pc2 := 2) S dX9_pairsOfDoors_1 rfl (by decide) [1, 0] rfl rfl ?_
  refine v_iconst (v := 0) (pc2 := 3) S dX9_pairsOfDoors_2 (by decide) rfl ?_
  refine v_istore_n (lv2 := [(0, .ref a0.1), (1, .int (0 : Int32)), (2, .int (0 : Int32))]) (pc2 := 4) S dX9_pairsOfDoors_3 rfl (by decide) [1, 2, 0] rfl rfl ?_
  obtain ⟨kk, hw⟩ := hw
  exact L4 kk (0 : Int32) (0 : Int32) hw
set_option maxHeartbeats 4000000 in
set_option maxRecDepth 100000 in
theorem c_X9_count (l : Launch) (G : GG) (a0 : ModA) (v0 : ModV) (i0 : Int32) (Q : Int32 → Prop) (hw : wp_X9_count v0 i0 Q) : Con l G yX9_count cX9_count 2 (some .int) { frames := 4, cells := 0, slots := 0, locals := 90 } [.ref a0.1, .int i0] (wMod G a0 v0) (PI (fun _ : Unit => wMod G a0 v0) (fun r _ => Q r)) 0 0 := by
  refine con_of RX9 rfl (by decide) [(0, .ref a0.1), (1, .int i0)] rfl (Nat.le_of_ble_eq_true rfl) ?_
  intro p e s m args below meth c S hname
  refine v_iload_n (pc2 := 1) S 1 dX9_count_0 rfl rfl rfl ?_
  by_cases c1 : i0 = (0 : Int32)
  · have hw := hw.1 c1
    refine v_tableIn (off := 75) (tgt := 76) S dX9_count_1 (by rw [c1]; decide) (by rw [c1]; decide) (by rw [c1]; rfl) (by decide) ?_
    refine v_aload_n (pc2 := 77) S 0 dX9_count_76 rfl rfl rfl ?_
    refine v_callV (pc2 := 80) (As := []) (rest := []) S (c_X9_openSet l G a0 v0 _ hw) mf_X9_openSet u_814 u_816 u_17 0 9 rfl rfl rfl rfl ⟨rfl, rfl⟩ ⟨Nat.le_of_ble_eq_true rfl, Nat.le_of_ble_eq_true rfl⟩ ⟨Nat.le_of_ble_eq_true rfl, Nat.le_of_ble_eq_true rfl⟩ (Nat.le_of_ble_eq_true rfl) dX9_count_77 (frW _) rfl (pi (fun r2 u3 hw => ?_))
    refine v_to (wMod G a0 v0) 80 [(0, .ref a0.1), (1, .int i0)] _ [.int r2] rfl rfl rfl rfl ?_
    exact v_iret S ⟨r2, (), rfl, rfl, hw⟩ dX9_count_80
  · have hw := hw.2
    by_cases c4 : i0 = (1 : Int32)
    · have hw := hw.1 c4
      refine v_tableIn (off := 80) (tgt := 81) S dX9_count_1 (by rw [c4]; decide) (by rw [c4]; decide) (by rw [c4]; rfl) (by decide) ?_
      refine v_aload_n (pc2 := 82) S 0 dX9_count_81 rfl rfl rfl ?_
      refine v_callV (pc2 := 85) (As := []) (rest := []) S (c_X9_openSet l G a0 v0 _ hw) mf_X9_openSet u_814 u_816 u_17 0 9 rfl rfl rfl rfl ⟨rfl, rfl⟩ ⟨Nat.le_of_ble_eq_true rfl, Nat.le_of_ble_eq_true rfl⟩ ⟨Nat.le_of_ble_eq_true rfl, Nat.le_of_ble_eq_true rfl⟩ (Nat.le_of_ble_eq_true rfl) dX9_count_82 (frW _) rfl (pi (fun r5 u6 hw => ?_))
      refine v_to (wMod G a0 v0) 85 [(0, .ref a0.1), (1, .int i0)] _ [.int r5] rfl rfl rfl rfl ?_
      refine v_callS (pc2 := 88) (As := [.int r5]) (rest := []) S (c_X9_size l G r5 _ hw) mf_X9_size u_1026 u_1027 rfl rfl ⟨rfl, rfl⟩ ⟨Nat.le_of_ble_eq_true rfl, Nat.le_of_ble_eq_true rfl⟩ ⟨Nat.le_of_ble_eq_true rfl, Nat.le_of_ble_eq_true rfl⟩ (Nat.le_of_ble_eq_true rfl) dX9_count_85 (frM [] [] _) rfl (pi (fun r7 u8 hw => ?_))
      refine v_to (wMod G a0 v0) 88 [(0, .ref a0.1), (1, .int i0)] _ [.int r7] rfl rfl rfl rfl ?_
      exact v_iret S ⟨r7, (), rfl, rfl, hw⟩ dX9_count_88
    · have hw := hw.2
      by_cases c9 : i0 = (2 : Int32)
      · have hw := hw.1 c9
        refine v_tableIn (off := 88) (tgt := 89) S dX9_count_1 (by rw [c9]; decide) (by rw [c9]; decide) (by rw [c9]; rfl) (by decide) ?_
        refine v_aload_n (pc2 := 90) S 0 dX9_count_89 rfl rfl rfl ?_
        refine v_iload_n (pc2 := 91) S 1 dX9_count_90 rfl rfl rfl ?_
        refine v_iconst (v := 2) (pc2 := 92) S dX9_count_91 (by decide) rfl ?_
        refine v_icmp_ne (pc2 := 95) (tgt := 99) S dX9_count_92 (by decide) rfl (fun c10 => ?_) (fun c10 => ?_)
        · have hw := hw.1 c10
          refine v_iconst (v := 0) (pc2 := 100) S dX9_count_99 (by decide) rfl ?_
          refine v_callV (pc2 := 103) (As := [.int (0 : Int32)]) (rest := []) S (c_X9_cords l G a0 v0 (0 : Int32) _ hw) mf_X9_cords u_1073 u_1075 u_55 0 9 rfl rfl rfl rfl ⟨rfl, rfl⟩ ⟨Nat.le_of_ble_eq_true rfl, Nat.le_of_ble_eq_true rfl⟩ ⟨Nat.le_of_ble_eq_true rfl, Nat.le_of_ble_eq_true rfl⟩ (Nat.le_of_ble_eq_true rfl) dX9_count_100 (frW _) rfl (pi (fun r11 u12 hw => ?_))
          refine v_to (wMod G a0 v0) 103 [(0, .ref a0.1), (1, .int i0)] _ [.int r11] rfl rfl rfl rfl ?_
          exact v_iret S ⟨r11, (), rfl, rfl, hw⟩ dX9_count_103
        · have hw := hw.2 c10
          refine v_iconst (v := 1) (pc2 := 96) S dX9_count_95 (by decide) rfl ?_
          refine v_goto (tgt := 100) S dX9_count_96 (by decide) ?_
          refine v_callV (pc2 := 103) (As := [.int (1 : Int32)]) (rest := []) S (c_X9_cords l G a0 v0 (1 : Int32) _ hw) mf_X9_cords u_1073 u_1075 u_55 0 9 rfl rfl rfl rfl ⟨rfl, rfl⟩ ⟨Nat.le_of_ble_eq_true rfl, Nat.le_of_ble_eq_true rfl⟩ ⟨Nat.le_of_ble_eq_true rfl, Nat.le_of_ble_eq_true rfl⟩ (Nat.le_of_ble_eq_true rfl) dX9_count_100 (frW _) rfl (pi (fun r13 u14 hw => ?_))
          refine v_to (wMod G a0 v0) 103 [(0, .ref a0.1), (1, .int i0)] _ [.int r13] rfl rfl rfl rfl ?_
          exact v_iret S ⟨r13, (), rfl, rfl, hw⟩ dX9_count_103
      · have hw := hw.2
        by_cases c15 : i0 = (3 : Int32)
        · have hw := hw.1 c15
          refine v_tableIn (off := 88) (tgt := 89) S dX9_count_1 (by rw [c15]; decide) (by rw [c15]; decide) (by rw [c15]; rfl) (by decide) ?_
          refine v_aload_n (pc2 := 90) S 0 dX9_count_89 rfl rfl rfl ?_
          refine v_iload_n (pc2 := 91) S 1 dX9_count_90 rfl rfl rfl ?_
          refine v_iconst (v := 2) (pc2 := 92) S dX9_count_91 (by decide) rfl ?_
          refine v_icmp_ne (pc2 := 95) (tgt := 99) S dX9_count_92 (by decide) rfl (fun c16 => ?_) (fun c16 => ?_)
          · have hw := hw.1 c16
            refine v_iconst (v := 0) (pc2 := 100) S dX9_count_99 (by decide) rfl ?_
            refine v_callV (pc2 := 103) (As := [.int (0 : Int32)]) (rest := []) S (c_X9_cords l G a0 v0 (0 : Int32) _ hw) mf_X9_cords u_1073 u_1075 u_55 0 9 rfl rfl rfl rfl ⟨rfl, rfl⟩ ⟨Nat.le_of_ble_eq_true rfl, Nat.le_of_ble_eq_true rfl⟩ ⟨Nat.le_of_ble_eq_true rfl, Nat.le_of_ble_eq_true rfl⟩ (Nat.le_of_ble_eq_true rfl) dX9_count_100 (frW _) rfl (pi (fun r17 u18 hw => ?_))
            refine v_to (wMod G a0 v0) 103 [(0, .ref a0.1), (1, .int i0)] _ [.int r17] rfl rfl rfl rfl ?_
            exact v_iret S ⟨r17, (), rfl, rfl, hw⟩ dX9_count_103
          · have hw := hw.2 c16
            refine v_iconst (v := 1) (pc2 := 96) S dX9_count_95 (by decide) rfl ?_
            refine v_goto (tgt := 100) S dX9_count_96 (by decide) ?_
            refine v_callV (pc2 := 103) (As := [.int (1 : Int32)]) (rest := []) S (c_X9_cords l G a0 v0 (1 : Int32) _ hw) mf_X9_cords u_1073 u_1075 u_55 0 9 rfl rfl rfl rfl ⟨rfl, rfl⟩ ⟨Nat.le_of_ble_eq_true rfl, Nat.le_of_ble_eq_true rfl⟩ ⟨Nat.le_of_ble_eq_true rfl, Nat.le_of_ble_eq_true rfl⟩ (Nat.le_of_ble_eq_true rfl) dX9_count_100 (frW _) rfl (pi (fun r19 u20 hw => ?_))
            refine v_to (wMod G a0 v0) 103 [(0, .ref a0.1), (1, .int i0)] _ [.int r19] rfl rfl rfl rfl ?_
            exact v_iret S ⟨r19, (), rfl, rfl, hw⟩ dX9_count_103
        · have hw := hw.2
          by_cases c21 : i0 = (4 : Int32)
          · have hw := hw.1 c21
            refine v_tableIn (off := 103) (tgt := 104) S dX9_count_1 (by rw [c21]; decide) (by rw [c21]; decide) (by rw [c21]; rfl) (by decide) ?_
            refine v_aload_n (pc2 := 105) S 0 dX9_count_104 rfl rfl rfl ?_
            refine v_callV (pc2 := 108) (As := []) (rest := []) S (c_X9_held l G a0 v0 _ hw) mf_X9_held u_1077 u_1079 u_56 0 9 rfl rfl rfl rfl ⟨rfl, rfl⟩ ⟨Nat.le_of_ble_eq_true rfl, Nat.le_of_ble_eq_true rfl⟩ ⟨Nat.le_of_ble_eq_true rfl, Nat.le_of_ble_eq_true rfl⟩ (Nat.le_of_ble_eq_true rfl) dX9_count_105 (frW _) rfl (pi (fun r22 u23 hw => ?_))
            refine v_to (wMod G a0 v0) 108 [(0, .ref a0.1), (1, .int i0)] _ [.int r22] rfl rfl rfl rfl ?_
            exact v_iret S ⟨r22, (), rfl, rfl, hw⟩ dX9_count_108
          · have hw := hw.2
            by_cases c24 : i0 = (5 : Int32)
            · have hw := hw.1 c24
              refine v_tableIn (off := 108) (tgt := 109) S dX9_count_1 (by rw [c24]; decide) (by rw [c24]; decide) (by rw [c24]; rfl) (by decide) ?_
              refine v_aload_n (pc2 := 110) S 0 dX9_count_109 rfl rfl rfl ?_
              refine v_callV (pc2 := 113) (As := []) (rest := []) S (c_X9_pairsOfHalls l G a0 v0 _ hw) mf_X9_pairsOfHalls u_1081 u_1083 u_57 0 9 rfl rfl rfl rfl ⟨rfl, rfl⟩ ⟨Nat.le_of_ble_eq_true rfl, Nat.le_of_ble_eq_true rfl⟩ ⟨Nat.le_of_ble_eq_true rfl, Nat.le_of_ble_eq_true rfl⟩ (Nat.le_of_ble_eq_true rfl) dX9_count_110 (frW _) rfl (pi (fun r25 u26 hw => ?_))
              refine v_to (wMod G a0 v0) 113 [(0, .ref a0.1), (1, .int i0)] _ [.int r25] rfl rfl rfl rfl ?_
              exact v_iret S ⟨r25, (), rfl, rfl, hw⟩ dX9_count_113
            · have hw := hw.2
              by_cases c27 : i0 = (6 : Int32)
              · have hw := hw.1 c27
                refine v_tableIn (off := 113) (tgt := 114) S dX9_count_1 (by rw [c27]; decide) (by rw [c27]; decide) (by rw [c27]; rfl) (by decide) ?_
                refine v_aload_n (pc2 := 115) S 0 dX9_count_114 rfl rfl rfl ?_
                refine v_callV (pc2 := 118) (As := []) (rest := []) S (c_X9_pairsOfDoors l G a0 v0 _ hw) mf_X9_pairsOfDoors u_1085 u_1087 u_58 0 9 rfl rfl rfl rfl ⟨rfl, rfl⟩ ⟨Nat.le_of_ble_eq_true rfl, Nat.le_of_ble_eq_true rfl⟩ ⟨Nat.le_of_ble_eq_true rfl, Nat.le_of_ble_eq_true rfl⟩ (Nat.le_of_ble_eq_true rfl) dX9_count_115 (frW _) rfl (pi (fun r28 u29 hw => ?_))
                refine v_to (wMod G a0 v0) 118 [(0, .ref a0.1), (1, .int i0)] _ [.int r28] rfl rfl rfl rfl ?_
                exact v_iret S ⟨r28, (), rfl, rfl, hw⟩ dX9_count_118
              · have hw := hw.2
                by_cases c30 : i0 = (7 : Int32)
                · have hw := hw.1 c30
                  refine v_tableIn (off := 118) (tgt := 119) S dX9_count_1 (by rw [c30]; decide) (by rw [c30]; decide) (by rw [c30]; rfl) (by decide) ?_
                  refine v_aload_n (pc2 := 120) S 0 dX9_count_119 rfl rfl rfl ?_
                  refine v_get (v := .ref a0.2.1) (pc2 := 123) S gf_X9_7 0 rfl rfl dX9_count_120 rfl ?_
                  refine v_iconst (v := 1) (pc2 := 124) S dX9_count_123 (by decide) rfl ?_
                  refine v_iload_n (pc2 := 125) S 1 dX9_count_124 rfl rfl rfl ?_
                  refine v_iadd (pc2 := 126) S dX9_count_125 rfl ?_
                  refine v_bipush (v := 7) (pc2 := 128) S dX9_count_126 (by decide) rfl ?_
                  refine v_isub (pc2 := 129) S dX9_count_128 rfl ?_
                  obtain ⟨h31, hw⟩ := hw
                  refine v_iald (pc2 := 130) S 1 rfl h31 dX9_count_129 rfl ?_
                  exact v_iret S ⟨v0.1 (((1 : Int32) + i0) - (7 : Int32)).toNatClampNeg, (), rfl, rfl, hw⟩ dX9_count_130
                · have hw := hw.2
                  by_cases c32 : i0 = (8 : Int32)
                  · have hw := hw.1 c32
                    refine v_tableIn (off := 118) (tgt := 119) S dX9_count_1 (by rw [c32]; decide) (by rw [c32]; decide) (by rw [c32]; rfl) (by decide) ?_
                    refine v_aload_n (pc2 := 120) S 0 dX9_count_119 rfl rfl rfl ?_
                    refine v_get (v := .ref a0.2.1) (pc2 := 123) S gf_X9_7 0 rfl rfl dX9_count_120 rfl ?_
                    refine v_iconst (v := 1) (pc2 := 124) S dX9_count_123 (by decide) rfl ?_
                    refine v_iload_n (pc2 := 125) S 1 dX9_count_124 rfl rfl rfl ?_
                    refine v_iadd (pc2 := 126) S dX9_count_125 rfl ?_
                    refine v_bipush (v := 7) (pc2 := 128) S dX9_count_126 (by decide) rfl ?_
                    refine v_isub (pc2 := 129) S dX9_count_128 rfl ?_
                    obtain ⟨h33, hw⟩ := hw
                    refine v_iald (pc2 := 130) S 1 rfl h33 dX9_count_129 rfl ?_
                    exact v_iret S ⟨v0.1 (((1 : Int32) + i0) - (7 : Int32)).toNatClampNeg, (), rfl, rfl, hw⟩ dX9_count_130
                  · have hw := hw.2
                    by_cases c34 : i0 = (9 : Int32)
                    · have hw := hw.1 c34
                      refine v_tableIn (off := 118) (tgt := 119) S dX9_count_1 (by rw [c34]; decide) (by rw [c34]; decide) (by rw [c34]; rfl) (by decide) ?_
                      refine v_aload_n (pc2 := 120) S 0 dX9_count_119 rfl rfl rfl ?_
                      refine v_get (v := .ref a0.2.1) (pc2 := 123) S gf_X9_7 0 rfl rfl dX9_count_120 rfl ?_
                      refine v_iconst (v := 1) (pc2 := 124) S dX9_count_123 (by decide) rfl ?_
                      refine v_iload_n (pc2 := 125) S 1 dX9_count_124 rfl rfl rfl ?_
                      refine v_iadd (pc2 := 126) S dX9_count_125 rfl ?_
                      refine v_bipush (v := 7) (pc2 := 128) S dX9_count_126 (by decide) rfl ?_
                      refine v_isub (pc2 := 129) S dX9_count_128 rfl ?_
                      obtain ⟨h35, hw⟩ := hw
                      refine v_iald (pc2 := 130) S 1 rfl h35 dX9_count_129 rfl ?_
                      exact v_iret S ⟨v0.1 (((1 : Int32) + i0) - (7 : Int32)).toNatClampNeg, (), rfl, rfl, hw⟩ dX9_count_130
                    · have hw := hw.2
                      by_cases c36 : i0 = (10 : Int32)
                      · have hw := hw.1 c36
                        refine v_tableIn (off := 118) (tgt := 119) S dX9_count_1 (by rw [c36]; decide) (by rw [c36]; decide) (by rw [c36]; rfl) (by decide) ?_
                        refine v_aload_n (pc2 := 120) S 0 dX9_count_119 rfl rfl rfl ?_
                        refine v_get (v := .ref a0.2.1) (pc2 := 123) S gf_X9_7 0 rfl rfl dX9_count_120 rfl ?_
                        refine v_iconst (v := 1) (pc2 := 124) S dX9_count_123 (by decide) rfl ?_
                        refine v_iload_n (pc2 := 125) S 1 dX9_count_124 rfl rfl rfl ?_
                        refine v_iadd (pc2 := 126) S dX9_count_125 rfl ?_
                        refine v_bipush (v := 7) (pc2 := 128) S dX9_count_126 (by decide) rfl ?_
                        refine v_isub (pc2 := 129) S dX9_count_128 rfl ?_
                        obtain ⟨h37, hw⟩ := hw
                        refine v_iald (pc2 := 130) S 1 rfl h37 dX9_count_129 rfl ?_
                        exact v_iret S ⟨v0.1 (((1 : Int32) + i0) - (7 : Int32)).toNatClampNeg, (), rfl, rfl, hw⟩ dX9_count_130
                      · have hw := hw.2
                        by_cases c38 : i0 = (11 : Int32)
                        · have hw := hw.1 c38
                          refine v_tableIn (off := 118) (tgt := 119) S dX9_count_1 (by rw [c38]; decide) (by rw [c38]; decide) (by rw [c38]; rfl) (by decide) ?_
                          refine v_aload_n (pc2 := 120) S 0 dX9_count_119 rfl rfl rfl ?_
                          refine v_get (v := .ref a0.2.1) (pc2 := 123) S gf_X9_7 0 rfl rfl dX9_count_120 rfl ?_
                          refine v_iconst (v := 1) (pc2 := 124) S dX9_count_123 (by decide) rfl ?_
                          refine v_iload_n (pc2 := 125) S 1 dX9_count_124 rfl rfl rfl ?_
                          refine v_iadd (pc2 := 126) S dX9_count_125 rfl ?_
                          refine v_bipush (v := 7) (pc2 := 128) S dX9_count_126 (by decide) rfl ?_
                          refine v_isub (pc2 := 129) S dX9_count_128 rfl ?_
                          obtain ⟨h39, hw⟩ := hw
                          refine v_iald (pc2 := 130) S 1 rfl h39 dX9_count_129 rfl ?_
                          exact v_iret S ⟨v0.1 (((1 : Int32) + i0) - (7 : Int32)).toNatClampNeg, (), rfl, rfl, hw⟩ dX9_count_130
                        · have hw := hw.2
                          by_cases c40 : i0 = (12 : Int32)
                          · have hw := hw.1 c40
                            refine v_tableIn (off := 130) (tgt := 131) S dX9_count_1 (by rw [c40]; decide) (by rw [c40]; decide) (by rw [c40]; rfl) (by decide) ?_
                            refine v_aload_n (pc2 := 132) S 0 dX9_count_131 rfl rfl rfl ?_
                            refine v_get (v := .ref a0.2.1) (pc2 := 135) S gf_X9_7 0 rfl rfl dX9_count_132 rfl ?_
                            refine v_iconst (v := 0) (pc2 := 136) S dX9_count_135 (by decide) rfl ?_
                            obtain ⟨h41, hw⟩ := hw
                            refine v_iald (pc2 := 137) S 1 rfl h41 dX9_count_136 rfl ?_
                            exact v_iret S ⟨v0.1 (0 : Int32).toNatClampNeg, (), rfl, rfl, hw⟩ dX9_count_137
                          · have hw := hw.2
                            by_cases c42 : i0 = (13 : Int32)
                            · have hw := hw.1 c42
                              refine v_tableIn (off := 137) (tgt := 138) S dX9_count_1 (by rw [c42]; decide) (by rw [c42]; decide) (by rw [c42]; rfl) (by decide) ?_
                              refine v_aload_n (pc2 := 139) S 0 dX9_count_138 rfl rfl rfl ?_
                              refine v_get (v := .int v0.2.2.2.2.2.2.2.1) (pc2 := 142) S gf_X9_151 0 rfl rfl dX9_count_139 rfl ?_
                              exact v_iret S ⟨v0.2.2.2.2.2.2.2.1, (), rfl, rfl, hw⟩ dX9_count_142
                            · have hw := hw.2
                              by_cases c43 : i0 = (14 : Int32)
                              · have hw := hw.1 c43
                                refine v_tableIn (off := 142) (tgt := 143) S dX9_count_1 (by rw [c43]; decide) (by rw [c43]; decide) (by rw [c43]; rfl) (by decide) ?_
                                refine v_aload_n (pc2 := 144) S 0 dX9_count_143 rfl rfl rfl ?_
                                refine v_get (v := .int v0.2.2.2.1) (pc2 := 147) S gf_X9_56 0 rfl rfl dX9_count_144 rfl ?_
                                exact v_iret S ⟨v0.2.2.2.1, (), rfl, rfl, hw⟩ dX9_count_147
                              · have hw := hw.2
                                have hw := hw c1 c4 c9 c15 c21 c24 c27 c30 c32 c34 c36 c38 c40 c42 c43
                                refine v_tableOut (tgt := 148) S dX9_count_1 (sw_out14 c1 c4 c9 c15 c21 c24 c27 c30 c32 c34 c36 c38 c40 c42 c43) (by decide) ?_
                                refine v_iconst (v := -1) (pc2 := 149) S dX9_count_148 (by decide) rfl ?_
                                exact v_iret S ⟨(-1 : Int32), (), rfl, rfl, hw⟩ dX9_count_149
set_option maxHeartbeats 4000000 in
set_option maxRecDepth 100000 in
theorem c_X9_tightness (l : Launch) (G : GG) (a0 : ModA) (v0 : ModV) (Q : UInt64 → Prop) (hw : wp_X9_tightness v0 Q) : Con l G yX9_tightness cX9_tightness 5 (some .double) { frames := 3, cells := 0, slots := 0, locals := 67 } [.ref a0.1] (wMod G a0 v0) (PD (fun _ : Unit => wMod G a0 v0) (fun r _ => Q r)) 0 0 := by
  refine con_of RX9 rfl (by decide) [(0, .ref a0.1)] rfl (Nat.le_of_ble_eq_true rfl) ?_
  intro p e s m args below meth c S hname
  refine v_aload_n (pc2 := 1) S 0 dX9_tightness_0 rfl rfl rfl ?_
  refine v_iconst (v := 1) (pc2 := 2) S dX9_tightness_1 (by decide) rfl ?_
  refine v_callV (pc2 := 5) (As := [.int (1 : Int32)]) (rest := []) S (c_X9_cords l G a0 v0 (1 : Int32) _ hw) mf_X9_cords u_1073 u_1075 u_55 0 9 rfl rfl rfl rfl ⟨rfl, rfl⟩ ⟨Nat.le_of_ble_eq_true rfl, Nat.le_of_ble_eq_true rfl⟩ ⟨Nat.le_of_ble_eq_true rfl, Nat.le_of_ble_eq_true rfl⟩ (Nat.le_of_ble_eq_true rfl) dX9_tightness_2 (frW _) rfl (pi (fun r1 u2 hw => ?_))
  refine v_to (wMod G a0 v0) 5 [(0, .ref a0.1)] _ [.int r1] rfl rfl rfl rfl ?_
  refine v_i2d (pc2 := 6) S dX9_tightness_5 rfl ?_
  refine v_nmd (fun z3 ez3 => ?_)
  have hw := hw z3 ez3
  refine v_dstore_n (lv2 := [(0, .ref a0.1), (1, .double z3)]) (pc2 := 7) S dX9_tightness_6 rfl (by decide) [1, 0] rfl rfl ?_
  refine v_aload_n (pc2 := 8) S 0 dX9_tightness_7 rfl rfl rfl ?_
  refine v_iconst (v := 1) (pc2 := 9) S dX9_tightness_8 (by decide) rfl ?_
  refine v_callV (pc2 := 12) (As := [.int (1 : Int32)]) (rest := []) S (c_X9_cords l G a0 v0 (1 : Int32) _ hw) mf_X9_cords u_1073 u_1075 u_55 0 9 rfl rfl rfl rfl ⟨rfl, rfl⟩ ⟨Nat.le_of_ble_eq_true rfl, Nat.le_of_ble_eq_true rfl⟩ ⟨Nat.le_of_ble_eq_true rfl, Nat.le_of_ble_eq_true rfl⟩ (Nat.le_of_ble_eq_true rfl) dX9_tightness_9 (frW _) rfl (pi (fun r4 u5 hw => ?_))
  refine v_to (wMod G a0 v0) 12 [(0, .ref a0.1), (1, .double z3)] _ [.int r4] rfl rfl rfl rfl ?_
  refine v_aload_n (pc2 := 13) S 0 dX9_tightness_12 rfl rfl rfl ?_
  refine v_iconst (v := 0) (pc2 := 14) S dX9_tightness_13 (by decide) rfl ?_
  refine v_callV (pc2 := 17) (As := [.int (0 : Int32)]) (rest := [.int r4]) S (c_X9_cords l G a0 v0 (0 : Int32) _ hw) mf_X9_cords u_1073 u_1075 u_55 0 9 rfl rfl rfl rfl ⟨rfl, rfl⟩ ⟨Nat.le_of_ble_eq_true rfl, Nat.le_of_ble_eq_true rfl⟩ ⟨Nat.le_of_ble_eq_true rfl, Nat.le_of_ble_eq_true rfl⟩ (Nat.le_of_ble_eq_true rfl) dX9_tightness_14 (frW _) rfl (pi (fun r6 u7 hw => ?_))
  refine v_to (wMod G a0 v0) 17 [(0, .ref a0.1), (1, .double z3)] _ [.int r6, .int r4] rfl rfl rfl rfl ?_
  refine v_iadd (pc2 := 18) S dX9_tightness_17 rfl ?_
  refine v_i2d (pc2 := 19) S dX9_tightness_18 rfl ?_
  refine v_nmd (fun z8 ez8 => ?_)
  have hw := hw z8 ez8
  refine v_dstore_n (lv2 := [(0, .ref a0.1), (1, .double z3), (3, .double z8)]) (pc2 := 20) S dX9_tightness_19 rfl (by decide) [1, 2, 0] rfl rfl ?_
  refine v_dload_n (pc2 := 21) S 2 dX9_tightness_20 rfl rfl rfl ?_
  refine v_dconst0 (pc2 := 22) S dX9_tightness_21 rfl ?_
  refine v_dcmp (pc2 := 23) S dX9_tightness_22 rfl ?_
  refine v_if_ne (pc2 := 26) (tgt := 30) S dX9_tightness_23 (by decide) rfl (fun c9 => ?_) (fun c9 => ?_)
  · have hw := hw.1 c9
    refine v_dload_n (pc2 := 31) S 1 dX9_tightness_30 rfl rfl rfl ?_
    refine v_dload_n (pc2 := 32) S 2 dX9_tightness_31 rfl rfl rfl ?_
    obtain ⟨h10, hw⟩ := hw
    refine v_ddiv (pc2 := 33) S h10 dX9_tightness_32 rfl ?_
    exact v_dret S ⟨FP.ddiv z3 z8, (), rfl, rfl, hw⟩ dX9_tightness_33
  · have hw := hw.2 c9
    refine v_dconst0 (pc2 := 27) S dX9_tightness_26 rfl ?_
    refine v_goto (tgt := 33) S dX9_tightness_27 (by decide) ?_
    exact v_dret S ⟨FP.dconst0, (), rfl, rfl, hw⟩ dX9_tightness_33
set_option maxHeartbeats 4000000 in
set_option maxRecDepth 100000 in
theorem c_X9_ifOpened (l : Launch) (G : GG) (a0 : ModA) (v0 : ModV) (i0 : Int32) (i1 : Int32) (Q : Int32 → ModV → Prop) (hw : wp_X9_ifOpened v0 i0 i1 Q) : Con l G yX9_ifOpened cX9_ifOpened 4 (some .int) { frames := 4, cells := 0, slots := 0, locals := 91 } [.ref a0.1, .int i0, .int i1] (wMod G a0 v0) (PI (fun u : ModV => wMod G a0 u) Q) 0 0 := by
  refine con_of RX9 rfl (by decide) [(0, .ref a0.1), (1, .int i0), (2, .int i1)] rfl (Nat.le_of_ble_eq_true rfl) ?_
  intro p e s m args below meth c S hname
  refine v_iload_n (pc2 := 1) S 1 dX9_ifOpened_0 rfl rfl rfl ?_
  refine v_callS (pc2 := 4) (As := [.int i0]) (rest := []) S (c_X9_isDoor l G i0 _ hw) mf_X9_isDoor u_834 u_835 rfl rfl ⟨rfl, rfl⟩ ⟨Nat.le_of_ble_eq_true rfl, Nat.le_of_ble_eq_true rfl⟩ ⟨Nat.le_of_ble_eq_true rfl, Nat.le_of_ble_eq_true rfl⟩ (Nat.le_of_ble_eq_true rfl) dX9_ifOpened_1 (frM [] [] _) rfl (pb (fun r1 u2 br1 hw => ?_))
  refine v_to (wMod G a0 v0) 4 [(0, .ref a0.1), (1, .int i0), (2, .int i1)] _ [.int r1] rfl rfl rfl rfl ?_
  refine v_if_eq (pc2 := 7) (tgt := 16) S dX9_ifOpened_4 (by decide) rfl (fun c3 => ?_) (fun c3 => ?_)
  · have hw := hw.1 c3
    refine v_iconst (v := -1) (pc2 := 17) S dX9_ifOpened_16 (by decide) rfl ?_
    exact v_iret S ⟨(-1 : Int32), v0, rfl, rfl, hw⟩ dX9_ifOpened_17
  · have hw := hw.2 c3
    refine v_iload_n (pc2 := 8) S 2 dX9_ifOpened_7 rfl rfl rfl ?_
    refine v_iconst (v := 0) (pc2 := 9) S dX9_ifOpened_8 (by decide) rfl ?_
    refine v_iconst (v := 2) (pc2 := 10) S dX9_ifOpened_9 (by decide) rfl ?_
    refine v_callS (pc2 := 13) (As := [.int i1, .int (0 : Int32), .int (2 : Int32)]) (rest := []) S (c_X9_in l G i1 (0 : Int32) (2 : Int32) _ hw) mf_X9_in u_837 u_838 rfl rfl ⟨rfl, rfl⟩ ⟨Nat.le_of_ble_eq_true rfl, Nat.le_of_ble_eq_true rfl⟩ ⟨Nat.le_of_ble_eq_true rfl, Nat.le_of_ble_eq_true rfl⟩ (Nat.le_of_ble_eq_true rfl) dX9_ifOpened_10 (frM [] [] _) rfl (pb (fun r4 u5 br4 hw => ?_))
    refine v_to (wMod G a0 v0) 13 [(0, .ref a0.1), (1, .int i0), (2, .int i1)] _ [.int r4] rfl rfl rfl rfl ?_
    refine v_if_ne (pc2 := 16) (tgt := 18) S dX9_ifOpened_13 (by decide) rfl (fun c6 => ?_) (fun c6 => ?_)
    · have hw := hw.1 c6
      refine v_aload_n (pc2 := 19) S 0 dX9_ifOpened_18 rfl rfl rfl ?_
      refine v_iload_n (pc2 := 20) S 1 dX9_ifOpened_19 rfl rfl rfl ?_
      refine v_callV (pc2 := 23) (As := [.int i0]) (rest := []) S (c_X9_reason l G a0 v0 i0 _ hw) mf_X9_reason u_844 u_846 u_21 0 9 rfl rfl rfl rfl ⟨rfl, rfl⟩ ⟨Nat.le_of_ble_eq_true rfl, Nat.le_of_ble_eq_true rfl⟩ ⟨Nat.le_of_ble_eq_true rfl, Nat.le_of_ble_eq_true rfl⟩ (Nat.le_of_ble_eq_true rfl) dX9_ifOpened_20 (frW _) rfl (pi (fun r7 u8 hw => ?_))
      refine v_to (wMod G a0 v0) 23 [(0, .ref a0.1), (1, .int i0), (2, .int i1)] _ [.int r7] rfl rfl rfl rfl ?_
      refine v_if_le (pc2 := 26) (tgt := 39) S dX9_ifOpened_23 (by decide) rfl (fun c9 => ?_) (fun c9 => ?_)
      · have hw := hw.1 c9
        refine v_aload_n (pc2 := 40) S 0 dX9_ifOpened_39 rfl rfl rfl ?_
        refine v_get (v := .ref a0.2.1) (pc2 := 43) S gf_X9_7 0 rfl rfl dX9_ifOpened_40 rfl ?_
        refine v_iconst (v := 0) (pc2 := 44) S dX9_ifOpened_43 (by decide) rfl ?_
        refine v_aload_n (pc2 := 45) S 0 dX9_ifOpened_44 rfl rfl rfl ?_
        refine v_get (v := .ref a0.2.2.1) (pc2 := 48) S gf_X9_13 0 rfl rfl dX9_ifOpened_45 rfl ?_
        refine v_iconst (v := 0) (pc2 := 49) S dX9_ifOpened_48 (by decide) rfl ?_
        refine v_callS (pc2 := 52) (As := [.ref a0.2.1, .int (0 : Int32), .ref a0.2.2.1, .int (0 : Int32)]) (rest := []) S (c_X9_copyState l G 85 85 a0.2.1 a0.2.2.1 v0.1 v0.2.1 (0 : Int32) (0 : Int32) _ hw) mf_X9_copyState u_807 u_808 rfl rfl ⟨rfl, rfl⟩ ⟨Nat.le_of_ble_eq_true rfl, Nat.le_of_ble_eq_true rfl⟩ ⟨Nat.le_of_ble_eq_true rfl, Nat.le_of_ble_eq_true rfl⟩ (Nat.le_of_ble_eq_true rfl) dX9_ifOpened_49 (frM ([(a0.1, .inr (9, [.ref a0.2.1, .ref a0.2.2.1, .ref a0.2.2.2.1, .int v0.2.2.2.1, .ref a0.2.2.2.2.1, .int v0.2.2.2.2.2.1, .ref a0.2.2.2.2.2.1, .int v0.2.2.2.2.2.2.2.1, .int v0.2.2.2.2.2.2.2.2.1, .int v0.2.2.2.2.2.2.2.2.2.1, .int v0.2.2.2.2.2.2.2.2.2.2.1, .int v0.2.2.2.2.2.2.2.2.2.2.2.1, .ref a0.2.2.2.2.2.2.1, .int v0.2.2.2.2.2.2.2.2.2.2.2.2.2.1, .ref a0.2.2.2.2.2.2.2.1, .ref a0.2.2.2.2.2.2.2.2, .int v0.2.2.2.2.2.2.2.2.2.2.2.2.2.2.2.2]))]) ([(a0.2.1, .inl (G.2.1, 85, .inl v0.1))] ++ [(a0.2.2.1, .inl (G.2.1, 85, .inl v0.2.1))]) (([(a0.2.2.2.1, .inl (G.2.1, 340, .inl v0.2.2.1))] : va_W) ++ (([(a0.2.2.2.2.1, .inl (G.2.1, 85, .inl v0.2.2.2.2.1))] : va_W) ++ (([(a0.2.2.2.2.2.1, .inl (G.2.1, 60, .inl v0.2.2.2.2.2.2.1))] : va_W) ++ (([(a0.2.2.2.2.2.2.1, .inl (G.2.1, 124, .inl v0.2.2.2.2.2.2.2.2.2.2.2.2.1))] : va_W) ++ (([(a0.2.2.2.2.2.2.2.1, .inl (G.2.1, 6144, .inl v0.2.2.2.2.2.2.2.2.2.2.2.2.2.2.1))] : va_W) ++ (([(a0.2.2.2.2.2.2.2.2, .inl (G.2.1, 6144, .inl v0.2.2.2.2.2.2.2.2.2.2.2.2.2.2.2.1))] : va_W)))))))) rfl (pv (fun u11 hw => ?_))
        refine v_to (wMod G a0 (v0.1, u11, v0.2.2.1, v0.2.2.2.1, v0.2.2.2.2.1, v0.2.2.2.2.2.1, v0.2.2.2.2.2.2.1, v0.2.2.2.2.2.2.2.1, v0.2.2.2.2.2.2.2.2.1, v0.2.2.2.2.2.2.2.2.2.1, v0.2.2.2.2.2.2.2.2.2.2.1, v0.2.2.2.2.2.2.2.2.2.2.2.1, v0.2.2.2.2.2.2.2.2.2.2.2.2.1, v0.2.2.2.2.2.2.2.2.2.2.2.2.2.1, v0.2.2.2.2.2.2.2.2.2.2.2.2.2.2.1, v0.2.2.2.2.2.2.2.2.2.2.2.2.2.2.2.1, v0.2.2.2.2.2.2.2.2.2.2.2.2.2.2.2.2)) 52 [(0, .ref a0.1), (1, .int i0), (2, .int i1)] _ [] rfl rfl rfl rfl ?_
        refine v_aload_n (pc2 := 53) S 0 dX9_ifOpened_52 rfl rfl rfl ?_
        refine v_iload_n (pc2 := 54) S 1 dX9_ifOpened_53 rfl rfl rfl ?_
        refine v_callV (pc2 := 57) (As := [.int i0]) (rest := []) S (c_X9_opens l G a0 (v0.1, u11, v0.2.2.1, v0.2.2.2.1, v0.2.2.2.2.1, v0.2.2.2.2.2.1, v0.2.2.2.2.2.2.1, v0.2.2.2.2.2.2.2.1, v0.2.2.2.2.2.2.2.2.1, v0.2.2.2.2.2.2.2.2.2.1, v0.2.2.2.2.2.2.2.2.2.2.1, v0.2.2.2.2.2.2.2.2.2.2.2.1, v0.2.2.2.2.2.2.2.2.2.2.2.2.1, v0.2.2.2.2.2.2.2.2.2.2.2.2.2.1, v0.2.2.2.2.2.2.2.2.2.2.2.2.2.2.1, v0.2.2.2.2.2.2.2.2.2.2.2.2.2.2.2.1, v0.2.2.2.2.2.2.2.2.2.2.2.2.2.2.2.2) i0 _ hw) mf_X9_opens u_864 u_866 u_26 0 9 rfl rfl rfl rfl ⟨rfl, rfl⟩ ⟨Nat.le_of_ble_eq_true rfl, Nat.le_of_ble_eq_true rfl⟩ ⟨Nat.le_of_ble_eq_true rfl, Nat.le_of_ble_eq_true rfl⟩ (Nat.le_of_ble_eq_true rfl) dX9_ifOpened_54 (frW _) rfl (pi (fun r12 u13 hw => ?_))
        refine v_to (wMod G a0 u13) 57 [(0, .ref a0.1), (1, .int i0), (2, .int i1)] _ [.int r12] rfl rfl rfl rfl ?_
        refine v_pop (pc2 := 58) S dX9_ifOpened_57 rfl rfl ?_
        refine v_iload_n (pc2 := 59) S 2 dX9_ifOpened_58 rfl rfl rfl ?_
        refine v_if_ne (pc2 := 62) (tgt := 69) S dX9_ifOpened_59 (by decide) rfl (fun c14 => ?_) (fun c14 => ?_)
        · have hw := hw.1 c14
          refine v_iload_n (pc2 := 70) S 2 dX9_ifOpened_69 rfl rfl rfl ?_
          refine v_iconst (v := 1) (pc2 := 71) S dX9_ifOpened_70 (by decide) rfl ?_
          refine v_icmp_ne (pc2 := 74) (tgt := 90) S dX9_ifOpened_71 (by decide) rfl (fun c15 => ?_) (fun c15 => ?_)
          · have hw := hw.1 c15
            refine v_aload_n (pc2 := 91) S 0 dX9_ifOpened_90 rfl rfl rfl ?_
            refine v_get (v := .ref a0.2.1) (pc2 := 94) S gf_X9_7 0 rfl rfl dX9_ifOpened_91 rfl ?_
            refine v_iconst (v := 4) (pc2 := 95) S dX9_ifOpened_94 (by decide) rfl ?_
            obtain ⟨h16, hw⟩ := hw
            refine v_iald (pc2 := 96) S 1 rfl h16 dX9_ifOpened_95 rfl ?_
            refine v_aload_n (pc2 := 97) S 0 dX9_ifOpened_96 rfl rfl rfl ?_
            refine v_get (v := .ref a0.2.2.1) (pc2 := 100) S gf_X9_13 0 rfl rfl dX9_ifOpened_97 rfl ?_
            refine v_iconst (v := 4) (pc2 := 101) S dX9_ifOpened_100 (by decide) rfl ?_
            obtain ⟨h17, hw⟩ := hw
            refine v_iald (pc2 := 102) S 2 rfl h17 dX9_ifOpened_101 rfl ?_
            refine v_isub (pc2 := 103) S dX9_ifOpened_102 rfl ?_
            refine v_nm (fun z18 ez18 => ?_)
            have hw := hw z18 ez18
            refine v_istore_n (lv2 := [(0, .ref a0.1), (1, .int i0), (2, .int i1), (3, .int z18)]) (pc2 := 104) S dX9_ifOpened_103 rfl (by decide) [1, 2, 3, 0] rfl rfl ?_
            refine v_aload_n (pc2 := 105) S 0 dX9_ifOpened_104 rfl rfl rfl ?_
            refine v_get (v := .ref a0.2.2.1) (pc2 := 108) S gf_X9_13 0 rfl rfl dX9_ifOpened_105 rfl ?_
            refine v_iconst (v := 0) (pc2 := 109) S dX9_ifOpened_108 (by decide) rfl ?_
            refine v_aload_n (pc2 := 110) S 0 dX9_ifOpened_109 rfl rfl rfl ?_
            refine v_get (v := .ref a0.2.1) (pc2 := 113) S gf_X9_7 0 rfl rfl dX9_ifOpened_110 rfl ?_
            refine v_iconst (v := 0) (pc2 := 114) S dX9_ifOpened_113 (by decide) rfl ?_
            refine v_callS (pc2 := 117) (As := [.ref a0.2.2.1, .int (0 : Int32), .ref a0.2.1, .int (0 : Int32)]) (rest := []) S (c_X9_copyState l G 85 85 a0.2.2.1 a0.2.1 u13.2.1 u13.1 (0 : Int32) (0 : Int32) _ hw) mf_X9_copyState u_807 u_808 rfl rfl ⟨rfl, rfl⟩ ⟨Nat.le_of_ble_eq_true rfl, Nat.le_of_ble_eq_true rfl⟩ ⟨Nat.le_of_ble_eq_true rfl, Nat.le_of_ble_eq_true rfl⟩ (Nat.le_of_ble_eq_true rfl) dX9_ifOpened_114 (frP (Rs := ([(a0.1, .inr (9, [.ref a0.2.1, .ref a0.2.2.1, .ref a0.2.2.2.1, .int u13.2.2.2.1, .ref a0.2.2.2.2.1, .int u13.2.2.2.2.2.1, .ref a0.2.2.2.2.2.1, .int u13.2.2.2.2.2.2.2.1, .int u13.2.2.2.2.2.2.2.2.1, .int u13.2.2.2.2.2.2.2.2.2.1, .int u13.2.2.2.2.2.2.2.2.2.2.1, .int u13.2.2.2.2.2.2.2.2.2.2.2.1, .ref a0.2.2.2.2.2.2.1, .int u13.2.2.2.2.2.2.2.2.2.2.2.2.2.1, .ref a0.2.2.2.2.2.2.2.1, .ref a0.2.2.2.2.2.2.2.2, .int u13.2.2.2.2.2.2.2.2.2.2.2.2.2.2.2.2]))] : va_W) ++ (([(a0.2.2.2.1, .inl (G.2.1, 340, .inl u13.2.2.1))] : va_W) ++ (([(a0.2.2.2.2.1, .inl (G.2.1, 85, .inl u13.2.2.2.2.1))] : va_W) ++ (([(a0.2.2.2.2.2.1, .inl (G.2.1, 60, .inl u13.2.2.2.2.2.2.1))] : va_W) ++ (([(a0.2.2.2.2.2.2.1, .inl (G.2.1, 124, .inl u13.2.2.2.2.2.2.2.2.2.2.2.2.1))] : va_W) ++ (([(a0.2.2.2.2.2.2.2.1, .inl (G.2.1, 6144, .inl u13.2.2.2.2.2.2.2.2.2.2.2.2.2.2.1))] : va_W) ++ (([(a0.2.2.2.2.2.2.2.2, .inl (G.2.1, 6144, .inl u13.2.2.2.2.2.2.2.2.2.2.2.2.2.2.2.1))] : va_W)))))))) (gperm [[(a0.1, .inr (9, [.ref a0.2.1, .ref a0.2.2.1, .ref a0.2.2.2.1, .int u13.2.2.2.1, .ref a0.2.2.2.2.1, .int u13.2.2.2.2.2.1, .ref a0.2.2.2.2.2.1, .int u13.2.2.2.2.2.2.2.1, .int u13.2.2.2.2.2.2.2.2.1, .int u13.2.2.2.2.2.2.2.2.2.1, .int u13.2.2.2.2.2.2.2.2.2.2.1, .int u13.2.2.2.2.2.2.2.2.2.2.2.1, .ref a0.2.2.2.2.2.2.1, .int u13.2.2.2.2.2.2.2.2.2.2.2.2.2.1, .ref a0.2.2.2.2.2.2.2.1, .ref a0.2.2.2.2.2.2.2.2, .int u13.2.2.2.2.2.2.2.2.2.2.2.2.2.2.2.2]))], [(a0.2.1, .inl (G.2.1, 85, .inl u13.1))], [(a0.2.2.1, .inl (G.2.1, 85, .inl u13.2.1))], [(a0.2.2.2.1, .inl (G.2.1, 340, .inl u13.2.2.1))], [(a0.2.2.2.2.1, .inl (G.2.1, 85, .inl u13.2.2.2.2.1))], [(a0.2.2.2.2.2.1, .inl (G.2.1, 60, .inl u13.2.2.2.2.2.2.1))], [(a0.2.2.2.2.2.2.1, .inl (G.2.1, 124, .inl u13.2.2.2.2.2.2.2.2.2.2.2.2.1))], [(a0.2.2.2.2.2.2.2.1, .inl (G.2.1, 6144, .inl u13.2.2.2.2.2.2.2.2.2.2.2.2.2.2.1))], [(a0.2.2.2.2.2.2.2.2, .inl (G.2.1, 6144, .inl u13.2.2.2.2.2.2.2.2.2.2.2.2.2.2.2.1))]] [2, 1, 0, 3, 4, 5, 6, 7, 8] rfl)) rfl (pv (fun u20 hw => ?_))
            refine v_perm _ (gperm [[(a0.2.2.1, .inl (G.2.1, 85, .inl u13.2.1))], [(a0.2.1, .inl (G.2.1, 85, .inl u20))], [(a0.1, .inr (9, [.ref a0.2.1, .ref a0.2.2.1, .ref a0.2.2.2.1, .int u13.2.2.2.1, .ref a0.2.2.2.2.1, .int u13.2.2.2.2.2.1, .ref a0.2.2.2.2.2.1, .int u13.2.2.2.2.2.2.2.1, .int u13.2.2.2.2.2.2.2.2.1, .int u13.2.2.2.2.2.2.2.2.2.1, .int u13.2.2.2.2.2.2.2.2.2.2.1, .int u13.2.2.2.2.2.2.2.2.2.2.2.1, .ref a0.2.2.2.2.2.2.1, .int u13.2.2.2.2.2.2.2.2.2.2.2.2.2.1, .ref a0.2.2.2.2.2.2.2.1, .ref a0.2.2.2.2.2.2.2.2, .int u13.2.2.2.2.2.2.2.2.2.2.2.2.2.2.2.2]))], [(a0.2.2.2.1, .inl (G.2.1, 340, .inl u13.2.2.1))], [(a0.2.2.2.2.1, .inl (G.2.1, 85, .inl u13.2.2.2.2.1))], [(a0.2.2.2.2.2.1, .inl (G.2.1, 60, .inl u13.2.2.2.2.2.2.1))], [(a0.2.2.2.2.2.2.1, .inl (G.2.1, 124, .inl u13.2.2.2.2.2.2.2.2.2.2.2.2.1))], [(a0.2.2.2.2.2.2.2.1, .inl (G.2.1, 6144, .inl u13.2.2.2.2.2.2.2.2.2.2.2.2.2.2.1))], [(a0.2.2.2.2.2.2.2.2, .inl (G.2.1, 6144, .inl u13.2.2.2.2.2.2.2.2.2.2.2.2.2.2.2.1))]] [2, 1, 0, 3, 4, 5, 6, 7, 8] rfl) ?_
            refine v_to (wMod G a0 (u20, u13.2.1, u13.2.2.1, u13.2.2.2.1, u13.2.2.2.2.1, u13.2.2.2.2.2.1, u13.2.2.2.2.2.2.1, u13.2.2.2.2.2.2.2.1, u13.2.2.2.2.2.2.2.2.1, u13.2.2.2.2.2.2.2.2.2.1, u13.2.2.2.2.2.2.2.2.2.2.1, u13.2.2.2.2.2.2.2.2.2.2.2.1, u13.2.2.2.2.2.2.2.2.2.2.2.2.1, u13.2.2.2.2.2.2.2.2.2.2.2.2.2.1, u13.2.2.2.2.2.2.2.2.2.2.2.2.2.2.1, u13.2.2.2.2.2.2.2.2.2.2.2.2.2.2.2.1, u13.2.2.2.2.2.2.2.2.2.2.2.2.2.2.2.2)) 117 [(0, .ref a0.1), (1, .int i0), (2, .int i1), (3, .int z18)] _ [] rfl rfl rfl rfl ?_
            refine v_iload_n (pc2 := 118) S 3 dX9_ifOpened_117 rfl rfl rfl ?_
            exact v_iret S ⟨z18, (u20, u13.2.1, u13.2.2.1, u13.2.2.2.1, u13.2.2.2.2.1, u13.2.2.2.2.2.1, u13.2.2.2.2.2.2.1, u13.2.2.2.2.2.2.2.1, u13.2.2.2.2.2.2.2.2.1, u13.2.2.2.2.2.2.2.2.2.1, u13.2.2.2.2.2.2.2.2.2.2.1, u13.2.2.2.2.2.2.2.2.2.2.2.1, u13.2.2.2.2.2.2.2.2.2.2.2.2.1, u13.2.2.2.2.2.2.2.2.2.2.2.2.2.1, u13.2.2.2.2.2.2.2.2.2.2.2.2.2.2.1, u13.2.2.2.2.2.2.2.2.2.2.2.2.2.2.2.1, u13.2.2.2.2.2.2.2.2.2.2.2.2.2.2.2.2), rfl, rfl, hw⟩ dX9_ifOpened_118
          · have hw := hw.2 c15
            refine v_aload_n (pc2 := 75) S 0 dX9_ifOpened_74 rfl rfl rfl ?_
            refine v_get (v := .ref a0.2.1) (pc2 := 78) S gf_X9_7 0 rfl rfl dX9_ifOpened_75 rfl ?_
            refine v_iconst (v := 3) (pc2 := 79) S dX9_ifOpened_78 (by decide) rfl ?_
            obtain ⟨h21, hw⟩ := hw
            refine v_iald (pc2 := 80) S 1 rfl h21 dX9_ifOpened_79 rfl ?_
            refine v_aload_n (pc2 := 81) S 0 dX9_ifOpened_80 rfl rfl rfl ?_
            refine v_get (v := .ref a0.2.2.1) (pc2 := 84) S gf_X9_13 0 rfl rfl dX9_ifOpened_81 rfl ?_
            refine v_iconst (v := 3) (pc2 := 85) S dX9_ifOpened_84 (by decide) rfl ?_
            obtain ⟨h22, hw⟩ := hw
            refine v_iald (pc2 := 86) S 2 rfl h22 dX9_ifOpened_85 rfl ?_
            refine v_isub (pc2 := 87) S dX9_ifOpened_86 rfl ?_
            refine v_goto (tgt := 103) S dX9_ifOpened_87 (by decide) ?_
            refine v_nm (fun z23 ez23 => ?_)
            have hw := hw z23 ez23
            refine v_istore_n (lv2 := [(0, .ref a0.1), (1, .int i0), (2, .int i1), (3, .int z23)]) (pc2 := 104) S dX9_ifOpened_103 rfl (by decide) [1, 2, 3, 0] rfl rfl ?_
            refine v_aload_n (pc2 := 105) S 0 dX9_ifOpened_104 rfl rfl rfl ?_
            refine v_get (v := .ref a0.2.2.1) (pc2 := 108) S gf_X9_13 0 rfl rfl dX9_ifOpened_105 rfl ?_
            refine v_iconst (v := 0) (pc2 := 109) S dX9_ifOpened_108 (by decide) rfl ?_
            refine v_aload_n (pc2 := 110) S 0 dX9_ifOpened_109 rfl rfl rfl ?_
            refine v_get (v := .ref a0.2.1) (pc2 := 113) S gf_X9_7 0 rfl rfl dX9_ifOpened_110 rfl ?_
            refine v_iconst (v := 0) (pc2 := 114) S dX9_ifOpened_113 (by decide) rfl ?_
            refine v_callS (pc2 := 117) (As := [.ref a0.2.2.1, .int (0 : Int32), .ref a0.2.1, .int (0 : Int32)]) (rest := []) S (c_X9_copyState l G 85 85 a0.2.2.1 a0.2.1 u13.2.1 u13.1 (0 : Int32) (0 : Int32) _ hw) mf_X9_copyState u_807 u_808 rfl rfl ⟨rfl, rfl⟩ ⟨Nat.le_of_ble_eq_true rfl, Nat.le_of_ble_eq_true rfl⟩ ⟨Nat.le_of_ble_eq_true rfl, Nat.le_of_ble_eq_true rfl⟩ (Nat.le_of_ble_eq_true rfl) dX9_ifOpened_114 (frP (Rs := ([(a0.1, .inr (9, [.ref a0.2.1, .ref a0.2.2.1, .ref a0.2.2.2.1, .int u13.2.2.2.1, .ref a0.2.2.2.2.1, .int u13.2.2.2.2.2.1, .ref a0.2.2.2.2.2.1, .int u13.2.2.2.2.2.2.2.1, .int u13.2.2.2.2.2.2.2.2.1, .int u13.2.2.2.2.2.2.2.2.2.1, .int u13.2.2.2.2.2.2.2.2.2.2.1, .int u13.2.2.2.2.2.2.2.2.2.2.2.1, .ref a0.2.2.2.2.2.2.1, .int u13.2.2.2.2.2.2.2.2.2.2.2.2.2.1, .ref a0.2.2.2.2.2.2.2.1, .ref a0.2.2.2.2.2.2.2.2, .int u13.2.2.2.2.2.2.2.2.2.2.2.2.2.2.2.2]))] : va_W) ++ (([(a0.2.2.2.1, .inl (G.2.1, 340, .inl u13.2.2.1))] : va_W) ++ (([(a0.2.2.2.2.1, .inl (G.2.1, 85, .inl u13.2.2.2.2.1))] : va_W) ++ (([(a0.2.2.2.2.2.1, .inl (G.2.1, 60, .inl u13.2.2.2.2.2.2.1))] : va_W) ++ (([(a0.2.2.2.2.2.2.1, .inl (G.2.1, 124, .inl u13.2.2.2.2.2.2.2.2.2.2.2.2.1))] : va_W) ++ (([(a0.2.2.2.2.2.2.2.1, .inl (G.2.1, 6144, .inl u13.2.2.2.2.2.2.2.2.2.2.2.2.2.2.1))] : va_W) ++ (([(a0.2.2.2.2.2.2.2.2, .inl (G.2.1, 6144, .inl u13.2.2.2.2.2.2.2.2.2.2.2.2.2.2.2.1))] : va_W)))))))) (gperm [[(a0.1, .inr (9, [.ref a0.2.1, .ref a0.2.2.1, .ref a0.2.2.2.1, .int u13.2.2.2.1, .ref a0.2.2.2.2.1, .int u13.2.2.2.2.2.1, .ref a0.2.2.2.2.2.1, .int u13.2.2.2.2.2.2.2.1, .int u13.2.2.2.2.2.2.2.2.1, .int u13.2.2.2.2.2.2.2.2.2.1, .int u13.2.2.2.2.2.2.2.2.2.2.1, .int u13.2.2.2.2.2.2.2.2.2.2.2.1, .ref a0.2.2.2.2.2.2.1, .int u13.2.2.2.2.2.2.2.2.2.2.2.2.2.1, .ref a0.2.2.2.2.2.2.2.1, .ref a0.2.2.2.2.2.2.2.2, .int u13.2.2.2.2.2.2.2.2.2.2.2.2.2.2.2.2]))], [(a0.2.1, .inl (G.2.1, 85, .inl u13.1))], [(a0.2.2.1, .inl (G.2.1, 85, .inl u13.2.1))], [(a0.2.2.2.1, .inl (G.2.1, 340, .inl u13.2.2.1))], [(a0.2.2.2.2.1, .inl (G.2.1, 85, .inl u13.2.2.2.2.1))], [(a0.2.2.2.2.2.1, .inl (G.2.1, 60, .inl u13.2.2.2.2.2.2.1))], [(a0.2.2.2.2.2.2.1, .inl (G.2.1, 124, .inl u13.2.2.2.2.2.2.2.2.2.2.2.2.1))], [(a0.2.2.2.2.2.2.2.1, .inl (G.2.1, 6144, .inl u13.2.2.2.2.2.2.2.2.2.2.2.2.2.2.1))], [(a0.2.2.2.2.2.2.2.2, .inl (G.2.1, 6144, .inl u13.2.2.2.2.2.2.2.2.2.2.2.2.2.2.2.1))]] [2, 1, 0, 3, 4, 5, 6, 7, 8] rfl)) rfl (pv (fun u25 hw => ?_))
            refine v_perm _ (gperm [[(a0.2.2.1, .inl (G.2.1, 85, .inl u13.2.1))], [(a0.2.1, .inl (G.2.1, 85, .inl u25))], [(a0.1, .inr (9, [.ref a0.2.1, .ref a0.2.2.1, .ref a0.2.2.2.1, .int u13.2.2.2.1, .ref a0.2.2.2.2.1, .int u13.2.2.2.2.2.1, .ref a0.2.2.2.2.2.1, .int u13.2.2.2.2.2.2.2.1, .int u13.2.2.2.2.2.2.2.2.1, .int u13.2.2.2.2.2.2.2.2.2.1, .int u13.2.2.2.2.2.2.2.2.2.2.1, .int u13.2.2.2.2.2.2.2.2.2.2.2.1, .ref a0.2.2.2.2.2.2.1, .int u13.2.2.2.2.2.2.2.2.2.2.2.2.2.1, .ref a0.2.2.2.2.2.2.2.1, .ref a0.2.2.2.2.2.2.2.2, .int u13.2.2.2.2.2.2.2.2.2.2.2.2.2.2.2.2]))], [(a0.2.2.2.1, .inl (G.2.1, 340, .inl u13.2.2.1))], [(a0.2.2.2.2.1, .inl (G.2.1, 85, .inl u13.2.2.2.2.1))], [(a0.2.2.2.2.2.1, .inl (G.2.1, 60, .inl u13.2.2.2.2.2.2.1))], [(a0.2.2.2.2.2.2.1, .inl (G.2.1, 124, .inl u13.2.2.2.2.2.2.2.2.2.2.2.2.1))], [(a0.2.2.2.2.2.2.2.1, .inl (G.2.1, 6144, .inl u13.2.2.2.2.2.2.2.2.2.2.2.2.2.2.1))], [(a0.2.2.2.2.2.2.2.2, .inl (G.2.1, 6144, .inl u13.2.2.2.2.2.2.2.2.2.2.2.2.2.2.2.1))]] [2, 1, 0, 3, 4, 5, 6, 7, 8] rfl) ?_
            refine v_to (wMod G a0 (u25, u13.2.1, u13.2.2.1, u13.2.2.2.1, u13.2.2.2.2.1, u13.2.2.2.2.2.1, u13.2.2.2.2.2.2.1, u13.2.2.2.2.2.2.2.1, u13.2.2.2.2.2.2.2.2.1, u13.2.2.2.2.2.2.2.2.2.1, u13.2.2.2.2.2.2.2.2.2.2.1, u13.2.2.2.2.2.2.2.2.2.2.2.1, u13.2.2.2.2.2.2.2.2.2.2.2.2.1, u13.2.2.2.2.2.2.2.2.2.2.2.2.2.1, u13.2.2.2.2.2.2.2.2.2.2.2.2.2.2.1, u13.2.2.2.2.2.2.2.2.2.2.2.2.2.2.2.1, u13.2.2.2.2.2.2.2.2.2.2.2.2.2.2.2.2)) 117 [(0, .ref a0.1), (1, .int i0), (2, .int i1), (3, .int z23)] _ [] rfl rfl rfl rfl ?_
            refine v_iload_n (pc2 := 118) S 3 dX9_ifOpened_117 rfl rfl rfl ?_
            exact v_iret S ⟨z23, (u25, u13.2.1, u13.2.2.1, u13.2.2.2.1, u13.2.2.2.2.1, u13.2.2.2.2.2.1, u13.2.2.2.2.2.2.1, u13.2.2.2.2.2.2.2.1, u13.2.2.2.2.2.2.2.2.1, u13.2.2.2.2.2.2.2.2.2.1, u13.2.2.2.2.2.2.2.2.2.2.1, u13.2.2.2.2.2.2.2.2.2.2.2.1, u13.2.2.2.2.2.2.2.2.2.2.2.2.1, u13.2.2.2.2.2.2.2.2.2.2.2.2.2.1, u13.2.2.2.2.2.2.2.2.2.2.2.2.2.2.1, u13.2.2.2.2.2.2.2.2.2.2.2.2.2.2.2.1, u13.2.2.2.2.2.2.2.2.2.2.2.2.2.2.2.2), rfl, rfl, hw⟩ dX9_ifOpened_118
        · have hw := hw.2 c14
          refine v_aload_n (pc2 := 63) S 0 dX9_ifOpened_62 rfl rfl rfl ?_
          refine v_callV (pc2 := 66) (As := []) (rest := []) S (c_X9_openSet l G a0 u13 _ hw) mf_X9_openSet u_814 u_816 u_17 0 9 rfl rfl rfl rfl ⟨rfl, rfl⟩ ⟨Nat.le_of_ble_eq_true rfl, Nat.le_of_ble_eq_true rfl⟩ ⟨Nat.le_of_ble_eq_true rfl, Nat.le_of_ble_eq_true rfl⟩ (Nat.le_of_ble_eq_true rfl) dX9_ifOpened_63 (frW _) rfl (pi (fun r26 u27 hw => ?_))
          refine v_to (wMod G a0 u13) 66 [(0, .ref a0.1), (1, .int i0), (2, .int i1)] _ [.int r26] rfl rfl rfl rfl ?_
          refine v_goto (tgt := 103) S dX9_ifOpened_66 (by decide) ?_
          refine v_istore_n (lv2 := [(0, .ref a0.1), (1, .int i0), (2, .int i1), (3, .int r26)]) (pc2 := 104) S dX9_ifOpened_103 rfl (by decide) [1, 2, 3, 0] rfl rfl ?_
          refine v_aload_n (pc2 := 105) S 0 dX9_ifOpened_104 rfl rfl rfl ?_
          refine v_get (v := .ref a0.2.2.1) (pc2 := 108) S gf_X9_13 0 rfl rfl dX9_ifOpened_105 rfl ?_
          refine v_iconst (v := 0) (pc2 := 109) S dX9_ifOpened_108 (by decide) rfl ?_
          refine v_aload_n (pc2 := 110) S 0 dX9_ifOpened_109 rfl rfl rfl ?_
          refine v_get (v := .ref a0.2.1) (pc2 := 113) S gf_X9_7 0 rfl rfl dX9_ifOpened_110 rfl ?_
          refine v_iconst (v := 0) (pc2 := 114) S dX9_ifOpened_113 (by decide) rfl ?_
          refine v_callS (pc2 := 117) (As := [.ref a0.2.2.1, .int (0 : Int32), .ref a0.2.1, .int (0 : Int32)]) (rest := []) S (c_X9_copyState l G 85 85 a0.2.2.1 a0.2.1 u13.2.1 u13.1 (0 : Int32) (0 : Int32) _ hw) mf_X9_copyState u_807 u_808 rfl rfl ⟨rfl, rfl⟩ ⟨Nat.le_of_ble_eq_true rfl, Nat.le_of_ble_eq_true rfl⟩ ⟨Nat.le_of_ble_eq_true rfl, Nat.le_of_ble_eq_true rfl⟩ (Nat.le_of_ble_eq_true rfl) dX9_ifOpened_114 (frP (Rs := ([(a0.1, .inr (9, [.ref a0.2.1, .ref a0.2.2.1, .ref a0.2.2.2.1, .int u13.2.2.2.1, .ref a0.2.2.2.2.1, .int u13.2.2.2.2.2.1, .ref a0.2.2.2.2.2.1, .int u13.2.2.2.2.2.2.2.1, .int u13.2.2.2.2.2.2.2.2.1, .int u13.2.2.2.2.2.2.2.2.2.1, .int u13.2.2.2.2.2.2.2.2.2.2.1, .int u13.2.2.2.2.2.2.2.2.2.2.2.1, .ref a0.2.2.2.2.2.2.1, .int u13.2.2.2.2.2.2.2.2.2.2.2.2.2.1, .ref a0.2.2.2.2.2.2.2.1, .ref a0.2.2.2.2.2.2.2.2, .int u13.2.2.2.2.2.2.2.2.2.2.2.2.2.2.2.2]))] : va_W) ++ (([(a0.2.2.2.1, .inl (G.2.1, 340, .inl u13.2.2.1))] : va_W) ++ (([(a0.2.2.2.2.1, .inl (G.2.1, 85, .inl u13.2.2.2.2.1))] : va_W) ++ (([(a0.2.2.2.2.2.1, .inl (G.2.1, 60, .inl u13.2.2.2.2.2.2.1))] : va_W) ++ (([(a0.2.2.2.2.2.2.1, .inl (G.2.1, 124, .inl u13.2.2.2.2.2.2.2.2.2.2.2.2.1))] : va_W) ++ (([(a0.2.2.2.2.2.2.2.1, .inl (G.2.1, 6144, .inl u13.2.2.2.2.2.2.2.2.2.2.2.2.2.2.1))] : va_W) ++ (([(a0.2.2.2.2.2.2.2.2, .inl (G.2.1, 6144, .inl u13.2.2.2.2.2.2.2.2.2.2.2.2.2.2.2.1))] : va_W)))))))) (gperm [[(a0.1, .inr (9, [.ref a0.2.1, .ref a0.2.2.1, .ref a0.2.2.2.1, .int u13.2.2.2.1, .ref a0.2.2.2.2.1, .int u13.2.2.2.2.2.1, .ref a0.2.2.2.2.2.1, .int u13.2.2.2.2.2.2.2.1, .int u13.2.2.2.2.2.2.2.2.1, .int u13.2.2.2.2.2.2.2.2.2.1, .int u13.2.2.2.2.2.2.2.2.2.2.1, .int u13.2.2.2.2.2.2.2.2.2.2.2.1, .ref a0.2.2.2.2.2.2.1, .int u13.2.2.2.2.2.2.2.2.2.2.2.2.2.1, .ref a0.2.2.2.2.2.2.2.1, .ref a0.2.2.2.2.2.2.2.2, .int u13.2.2.2.2.2.2.2.2.2.2.2.2.2.2.2.2]))], [(a0.2.1, .inl (G.2.1, 85, .inl u13.1))], [(a0.2.2.1, .inl (G.2.1, 85, .inl u13.2.1))], [(a0.2.2.2.1, .inl (G.2.1, 340, .inl u13.2.2.1))], [(a0.2.2.2.2.1, .inl (G.2.1, 85, .inl u13.2.2.2.2.1))], [(a0.2.2.2.2.2.1, .inl (G.2.1, 60, .inl u13.2.2.2.2.2.2.1))], [(a0.2.2.2.2.2.2.1, .inl (G.2.1, 124, .inl u13.2.2.2.2.2.2.2.2.2.2.2.2.1))], [(a0.2.2.2.2.2.2.2.1, .inl (G.2.1, 6144, .inl u13.2.2.2.2.2.2.2.2.2.2.2.2.2.2.1))], [(a0.2.2.2.2.2.2.2.2, .inl (G.2.1, 6144, .inl u13.2.2.2.2.2.2.2.2.2.2.2.2.2.2.2.1))]] [2, 1, 0, 3, 4, 5, 6, 7, 8] rfl)) rfl (pv (fun u29 hw => ?_))
          refine v_perm _ (gperm [[(a0.2.2.1, .inl (G.2.1, 85, .inl u13.2.1))], [(a0.2.1, .inl (G.2.1, 85, .inl u29))], [(a0.1, .inr (9, [.ref a0.2.1, .ref a0.2.2.1, .ref a0.2.2.2.1, .int u13.2.2.2.1, .ref a0.2.2.2.2.1, .int u13.2.2.2.2.2.1, .ref a0.2.2.2.2.2.1, .int u13.2.2.2.2.2.2.2.1, .int u13.2.2.2.2.2.2.2.2.1, .int u13.2.2.2.2.2.2.2.2.2.1, .int u13.2.2.2.2.2.2.2.2.2.2.1, .int u13.2.2.2.2.2.2.2.2.2.2.2.1, .ref a0.2.2.2.2.2.2.1, .int u13.2.2.2.2.2.2.2.2.2.2.2.2.2.1, .ref a0.2.2.2.2.2.2.2.1, .ref a0.2.2.2.2.2.2.2.2, .int u13.2.2.2.2.2.2.2.2.2.2.2.2.2.2.2.2]))], [(a0.2.2.2.1, .inl (G.2.1, 340, .inl u13.2.2.1))], [(a0.2.2.2.2.1, .inl (G.2.1, 85, .inl u13.2.2.2.2.1))], [(a0.2.2.2.2.2.1, .inl (G.2.1, 60, .inl u13.2.2.2.2.2.2.1))], [(a0.2.2.2.2.2.2.1, .inl (G.2.1, 124, .inl u13.2.2.2.2.2.2.2.2.2.2.2.2.1))], [(a0.2.2.2.2.2.2.2.1, .inl (G.2.1, 6144, .inl u13.2.2.2.2.2.2.2.2.2.2.2.2.2.2.1))], [(a0.2.2.2.2.2.2.2.2, .inl (G.2.1, 6144, .inl u13.2.2.2.2.2.2.2.2.2.2.2.2.2.2.2.1))]] [2, 1, 0, 3, 4, 5, 6, 7, 8] rfl) ?_
          refine v_to (wMod G a0 (u29, u13.2.1, u13.2.2.1, u13.2.2.2.1, u13.2.2.2.2.1, u13.2.2.2.2.2.1, u13.2.2.2.2.2.2.1, u13.2.2.2.2.2.2.2.1, u13.2.2.2.2.2.2.2.2.1, u13.2.2.2.2.2.2.2.2.2.1, u13.2.2.2.2.2.2.2.2.2.2.1, u13.2.2.2.2.2.2.2.2.2.2.2.1, u13.2.2.2.2.2.2.2.2.2.2.2.2.1, u13.2.2.2.2.2.2.2.2.2.2.2.2.2.1, u13.2.2.2.2.2.2.2.2.2.2.2.2.2.2.1, u13.2.2.2.2.2.2.2.2.2.2.2.2.2.2.2.1, u13.2.2.2.2.2.2.2.2.2.2.2.2.2.2.2.2)) 117 [(0, .ref a0.1), (1, .int i0), (2, .int i1), (3, .int r26)] _ [] rfl rfl rfl rfl ?_
          refine v_iload_n (pc2 := 118) S 3 dX9_ifOpened_117 rfl rfl rfl ?_
          exact v_iret S ⟨r26, (u29, u13.2.1, u13.2.2.1, u13.2.2.2.1, u13.2.2.2.2.1, u13.2.2.2.2.2.1, u13.2.2.2.2.2.2.1, u13.2.2.2.2.2.2.2.1, u13.2.2.2.2.2.2.2.2.1, u13.2.2.2.2.2.2.2.2.2.1, u13.2.2.2.2.2.2.2.2.2.2.1, u13.2.2.2.2.2.2.2.2.2.2.2.1, u13.2.2.2.2.2.2.2.2.2.2.2.2.1, u13.2.2.2.2.2.2.2.2.2.2.2.2.2.1, u13.2.2.2.2.2.2.2.2.2.2.2.2.2.2.1, u13.2.2.2.2.2.2.2.2.2.2.2.2.2.2.2.1, u13.2.2.2.2.2.2.2.2.2.2.2.2.2.2.2.2), rfl, rfl, hw⟩ dX9_ifOpened_118
      · have hw := hw.2 c9
        refine v_iload_n (pc2 := 27) S 2 dX9_ifOpened_26 rfl rfl rfl ?_
        refine v_if_ne (pc2 := 30) (tgt := 37) S dX9_ifOpened_27 (by decide) rfl (fun c30 => ?_) (fun c30 => ?_)
        · have hw := hw.1 c30
          refine v_iconst (v := 0) (pc2 := 38) S dX9_ifOpened_37 (by decide) rfl ?_
          exact v_iret S ⟨(0 : Int32), v0, rfl, rfl, hw⟩ dX9_ifOpened_38
        · have hw := hw.2 c30
          refine v_aload_n (pc2 := 31) S 0 dX9_ifOpened_30 rfl rfl rfl ?_
          refine v_callV (pc2 := 34) (As := []) (rest := []) S (c_X9_openSet l G a0 v0 _ hw) mf_X9_openSet u_814 u_816 u_17 0 9 rfl rfl rfl rfl ⟨rfl, rfl⟩ ⟨Nat.le_of_ble_eq_true rfl, Nat.le_of_ble_eq_true rfl⟩ ⟨Nat.le_of_ble_eq_true rfl, Nat.le_of_ble_eq_true rfl⟩ (Nat.le_of_ble_eq_true rfl) dX9_ifOpened_31 (frW _) rfl (pi (fun r31 u32 hw => ?_))
          refine v_to (wMod G a0 v0) 34 [(0, .ref a0.1), (1, .int i0), (2, .int i1)] _ [.int r31] rfl rfl rfl rfl ?_
          refine v_goto (tgt := 38) S dX9_ifOpened_34 (by decide) ?_
          exact v_iret S ⟨r31, v0, rfl, rfl, hw⟩ dX9_ifOpened_38
    · have hw := hw.2 c6
      refine v_iconst (v := -1) (pc2 := 17) S dX9_ifOpened_16 (by decide) rfl ?_
      exact v_iret S ⟨(-1 : Int32), v0, rfl, rfl, hw⟩ dX9_ifOpened_17
