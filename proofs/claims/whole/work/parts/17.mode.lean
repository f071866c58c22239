set_option maxHeartbeats 4000000 in
set_option maxRecDepth 100000 in
theorem c_X9_canOpen (l : Launch) (G : GG) (a0 : ModA) (v0 : ModV) (i0 : Int32) (Q : Int32 → Prop) (hw : wp_X9_canOpen v0 i0 Q) : Con l G yX9_canOpen cX9_canOpen 4 (some .int) { frames := 4, cells := 0, slots := 0, locals := 89 } [.ref a0.1, .int i0] (wMod G a0 v0.1 v0.2.1 v0.2.2.1 v0.2.2.2.1 v0.2.2.2.2.1 v0.2.2.2.2.2.1 v0.2.2.2.2.2.2.1 v0.2.2.2.2.2.2.2.1 v0.2.2.2.2.2.2.2.2.1 v0.2.2.2.2.2.2.2.2.2.1 v0.2.2.2.2.2.2.2.2.2.2.1 v0.2.2.2.2.2.2.2.2.2.2.2.1 v0.2.2.2.2.2.2.2.2.2.2.2.2.1 v0.2.2.2.2.2.2.2.2.2.2.2.2.2.1 v0.2.2.2.2.2.2.2.2.2.2.2.2.2.2.1 v0.2.2.2.2.2.2.2.2.2.2.2.2.2.2.2.1 v0.2.2.2.2.2.2.2.2.2.2.2.2.2.2.2.2) (PI (fun _ : Unit => wMod G a0 v0.1 v0.2.1 v0.2.2.1 v0.2.2.2.1 v0.2.2.2.2.1 v0.2.2.2.2.2.1 v0.2.2.2.2.2.2.1 v0.2.2.2.2.2.2.2.1 v0.2.2.2.2.2.2.2.2.1 v0.2.2.2.2.2.2.2.2.2.1 v0.2.2.2.2.2.2.2.2.2.2.1 v0.2.2.2.2.2.2.2.2.2.2.2.1 v0.2.2.2.2.2.2.2.2.2.2.2.2.1 v0.2.2.2.2.2.2.2.2.2.2.2.2.2.1 v0.2.2.2.2.2.2.2.2.2.2.2.2.2.2.1 v0.2.2.2.2.2.2.2.2.2.2.2.2.2.2.2.1 v0.2.2.2.2.2.2.2.2.2.2.2.2.2.2.2.2) (fun r _ => Q r)) 0 0 := by
  refine con_of RX9 rfl (by decide) [(0, .ref a0.1), (1, .int i0)] rfl (Nat.le_of_ble_eq_true rfl) ?_
  intro p e s m args below meth c S hname
  have L4 : ∀ (x1 : Int32) (kk : Nat) (x2 : Int32) (x3 : Int32), wp_X9_canOpen_L4 v0 x1 Q kk x2 x3 → V p l e { frames := 4, cells := 0, slots := 0, locals := 89 } s m args below meth c G (va_A (wMod G a0 v0.1 v0.2.1 v0.2.2.1 v0.2.2.2.1 v0.2.2.2.2.1 v0.2.2.2.2.2.1 v0.2.2.2.2.2.2.1 v0.2.2.2.2.2.2.2.1 v0.2.2.2.2.2.2.2.2.1 v0.2.2.2.2.2.2.2.2.2.1 v0.2.2.2.2.2.2.2.2.2.2.1 v0.2.2.2.2.2.2.2.2.2.2.2.1 v0.2.2.2.2.2.2.2.2.2.2.2.2.1 v0.2.2.2.2.2.2.2.2.2.2.2.2.2.1 v0.2.2.2.2.2.2.2.2.2.2.2.2.2.2.1 v0.2.2.2.2.2.2.2.2.2.2.2.2.2.2.2.1 v0.2.2.2.2.2.2.2.2.2.2.2.2.2.2.2.2) s.heap.size) 4 0 0 (MQ below (EQ G (wMod G a0 v0.1 v0.2.1 v0.2.2.1 v0.2.2.2.1 v0.2.2.2.2.1 v0.2.2.2.2.2.1 v0.2.2.2.2.2.2.1 v0.2.2.2.2.2.2.2.1 v0.2.2.2.2.2.2.2.2.1 v0.2.2.2.2.2.2.2.2.2.1 v0.2.2.2.2.2.2.2.2.2.2.1 v0.2.2.2.2.2.2.2.2.2.2.2.1 v0.2.2.2.2.2.2.2.2.2.2.2.2.1 v0.2.2.2.2.2.2.2.2.2.2.2.2.2.1 v0.2.2.2.2.2.2.2.2.2.2.2.2.2.2.1 v0.2.2.2.2.2.2.2.2.2.2.2.2.2.2.2.1 v0.2.2.2.2.2.2.2.2.2.2.2.2.2.2.2.2) s.heap.size (PI (fun _ : Unit => wMod G a0 v0.1 v0.2.1 v0.2.2.1 v0.2.2.2.1 v0.2.2.2.2.1 v0.2.2.2.2.2.1 v0.2.2.2.2.2.2.1 v0.2.2.2.2.2.2.2.1 v0.2.2.2.2.2.2.2.2.1 v0.2.2.2.2.2.2.2.2.2.1 v0.2.2.2.2.2.2.2.2.2.2.1 v0.2.2.2.2.2.2.2.2.2.2.2.1 v0.2.2.2.2.2.2.2.2.2.2.2.2.1 v0.2.2.2.2.2.2.2.2.2.2.2.2.2.1 v0.2.2.2.2.2.2.2.2.2.2.2.2.2.2.1 v0.2.2.2.2.2.2.2.2.2.2.2.2.2.2.2.1 v0.2.2.2.2.2.2.2.2.2.2.2.2.2.2.2.2) (fun r _ => Q r))) args s 0 0 (va_A (wMod G a0 v0.1 v0.2.1 v0.2.2.1 v0.2.2.2.1 v0.2.2.2.2.1 v0.2.2.2.2.2.1 v0.2.2.2.2.2.2.1 v0.2.2.2.2.2.2.2.1 v0.2.2.2.2.2.2.2.2.1 v0.2.2.2.2.2.2.2.2.2.1 v0.2.2.2.2.2.2.2.2.2.2.1 v0.2.2.2.2.2.2.2.2.2.2.2.1 v0.2.2.2.2.2.2.2.2.2.2.2.2.1 v0.2.2.2.2.2.2.2.2.2.2.2.2.2.1 v0.2.2.2.2.2.2.2.2.2.2.2.2.2.2.1 v0.2.2.2.2.2.2.2.2.2.2.2.2.2.2.2.1 v0.2.2.2.2.2.2.2.2.2.2.2.2.2.2.2.2) s.heap.size)) (wMod G a0 v0.1 v0.2.1 v0.2.2.1 v0.2.2.2.1 v0.2.2.2.2.1 v0.2.2.2.2.2.1 v0.2.2.2.2.2.2.1 v0.2.2.2.2.2.2.2.1 v0.2.2.2.2.2.2.2.2.1 v0.2.2.2.2.2.2.2.2.2.1 v0.2.2.2.2.2.2.2.2.2.2.1 v0.2.2.2.2.2.2.2.2.2.2.2.1 v0.2.2.2.2.2.2.2.2.2.2.2.2.1 v0.2.2.2.2.2.2.2.2.2.2.2.2.2.1 v0.2.2.2.2.2.2.2.2.2.2.2.2.2.2.1 v0.2.2.2.2.2.2.2.2.2.2.2.2.2.2.2.1 v0.2.2.2.2.2.2.2.2.2.2.2.2.2.2.2.2) 4 [(0, .ref a0.1), (1, .int x1), (2, .int x2), (3, .int x3)] [] := by
    intro x1 kk
    induction kk with
    | zero => intro x2 x3 hw; exact hw.elim
    | succ n ih =>
      intro x2 x3 hw
      refine v_iload_n (pc2 := 5) S 3 dX9_canOpen_4 rfl rfl rfl ?_
      refine v_bipush (v := 10) (pc2 := 7) S dX9_canOpen_5 (by decide) rfl ?_
      refine v_icmp_ge (pc2 := 10) (tgt := 50) S dX9_canOpen_7 (by decide) rfl (fun c1 => ?_) (fun c1 => ?_)
      · have hw := hw.1 c1
        refine v_iload_n (pc2 := 51) S 2 dX9_canOpen_50 rfl rfl rfl ?_
        exact v_iret S ⟨x2, (), rfl, rfl, hw⟩ dX9_canOpen_51
      · have hw := hw.2 c1
        refine v_iload_n (pc2 := 11) S 2 dX9_canOpen_10 rfl rfl rfl ?_
        refine v_aload_n (pc2 := 12) S 0 dX9_canOpen_11 rfl rfl rfl ?_
        refine v_iload_n (pc2 := 13) S 1 dX9_canOpen_12 rfl rfl rfl ?_
        refine v_iload_n (pc2 := 14) S 3 dX9_canOpen_13 rfl rfl rfl ?_
        refine v_callV (pc2 := 17) (As := [.int x1, .int x3]) (rest := [.int x2]) S (c_X9_isAt l G a0 v0 x1 x3 _ hw) mf_X9_isAt u_927 u_929 u_36 0 9 rfl rfl rfl rfl ⟨rfl, rfl⟩ ⟨Nat.le_of_ble_eq_true rfl, Nat.le_of_ble_eq_true rfl⟩ ⟨Nat.le_of_ble_eq_true rfl, Nat.le_of_ble_eq_true rfl⟩ (Nat.le_of_ble_eq_true rfl) dX9_canOpen_14 (frW _) rfl (pb (fun r2 u3 br2 hw => ?_))
        refine v_to (wMod G a0 v0.1 v0.2.1 v0.2.2.1 v0.2.2.2.1 v0.2.2.2.2.1 v0.2.2.2.2.2.1 v0.2.2.2.2.2.2.1 v0.2.2.2.2.2.2.2.1 v0.2.2.2.2.2.2.2.2.1 v0.2.2.2.2.2.2.2.2.2.1 v0.2.2.2.2.2.2.2.2.2.2.1 v0.2.2.2.2.2.2.2.2.2.2.2.1 v0.2.2.2.2.2.2.2.2.2.2.2.2.1 v0.2.2.2.2.2.2.2.2.2.2.2.2.2.1 v0.2.2.2.2.2.2.2.2.2.2.2.2.2.2.1 v0.2.2.2.2.2.2.2.2.2.2.2.2.2.2.2.1 v0.2.2.2.2.2.2.2.2.2.2.2.2.2.2.2.2) 17 [(0, .ref a0.1), (1, .int x1), (2, .int x2), (3, .int x3)] _ [.int r2, .int x2] rfl rfl rfl rfl ?_
        refine v_if_eq (pc2 := 20) (tgt := 41) S dX9_canOpen_17 (by decide) rfl (fun c4 => ?_) (fun c4 => ?_)
        · have hw := hw.1 c4
          refine v_iconst (v := 0) (pc2 := 42) S dX9_canOpen_41 (by decide) rfl ?_
          refine v_iadd (pc2 := 43) S dX9_canOpen_42 rfl ?_
          refine v_nm (fun z5 ez5 => ?_)
          have hw := hw z5 ez5
          refine v_istore_n (lv2 := [(0, .ref a0.1), (1, .int x1), (2, .int z5), (3, .int x3)]) (pc2 := 44) S dX9_canOpen_43 rfl (by decide) [1, 2, 0, 3] rfl rfl ?_
          obtain ⟨z6, ez6⟩ : ∃ y : Int32, y = x3 + (1 : Int32) := ⟨_, rfl⟩
          have hw := hw z6 ez6
          refine v_iinc (v := z6) (lv2 := [(0, .ref a0.1), (1, .int x1), (2, .int z5), (3, .int z6)]) (pc2 := 47) S 3 dX9_canOpen_44 rfl (by rw [ez6]; rfl) (by decide) [1, 2, 3, 0] rfl rfl ?_
          refine v_goto (tgt := 4) S dX9_canOpen_47 (by decide) ?_
          exact ih z5 z6 hw
        · have hw := hw.2 c4
          refine v_aload_n (pc2 := 21) S 0 dX9_canOpen_20 rfl rfl rfl ?_
          refine v_iload_n (pc2 := 22) S 1 dX9_canOpen_21 rfl rfl rfl ?_
          refine v_iload_n (pc2 := 23) S 3 dX9_canOpen_22 rfl rfl rfl ?_
          refine v_callV (pc2 := 26) (As := [.int x1, .int x3]) (rest := [.int x2]) S (c_X9_hasKey l G a0 v0 x1 x3 _ hw) mf_X9_hasKey u_935 u_937 u_38 0 9 rfl rfl rfl rfl ⟨rfl, rfl⟩ ⟨Nat.le_of_ble_eq_true rfl, Nat.le_of_ble_eq_true rfl⟩ ⟨Nat.le_of_ble_eq_true rfl, Nat.le_of_ble_eq_true rfl⟩ (Nat.le_of_ble_eq_true rfl) dX9_canOpen_23 (frW _) rfl (pb (fun r7 u8 br7 hw => ?_))
          refine v_to (wMod G a0 v0.1 v0.2.1 v0.2.2.1 v0.2.2.2.1 v0.2.2.2.2.1 v0.2.2.2.2.2.1 v0.2.2.2.2.2.2.1 v0.2.2.2.2.2.2.2.1 v0.2.2.2.2.2.2.2.2.1 v0.2.2.2.2.2.2.2.2.2.1 v0.2.2.2.2.2.2.2.2.2.2.1 v0.2.2.2.2.2.2.2.2.2.2.2.1 v0.2.2.2.2.2.2.2.2.2.2.2.2.1 v0.2.2.2.2.2.2.2.2.2.2.2.2.2.1 v0.2.2.2.2.2.2.2.2.2.2.2.2.2.2.1 v0.2.2.2.2.2.2.2.2.2.2.2.2.2.2.2.1 v0.2.2.2.2.2.2.2.2.2.2.2.2.2.2.2.2) 26 [(0, .ref a0.1), (1, .int x1), (2, .int x2), (3, .int x3)] _ [.int r7, .int x2] rfl rfl rfl rfl ?_
          refine v_if_eq (pc2 := 29) (tgt := 41) S dX9_canOpen_26 (by decide) rfl (fun c9 => ?_) (fun c9 => ?_)
          · have hw := hw.1 c9
            refine v_iconst (v := 0) (pc2 := 42) S dX9_canOpen_41 (by decide) rfl ?_
            refine v_iadd (pc2 := 43) S dX9_canOpen_42 rfl ?_
            refine v_nm (fun z10 ez10 => ?_)
            have hw := hw z10 ez10
            refine v_istore_n (lv2 := [(0, .ref a0.1), (1, .int x1), (2, .int z10), (3, .int x3)]) (pc2 := 44) S dX9_canOpen_43 rfl (by decide) [1, 2, 0, 3] rfl rfl ?_
            obtain ⟨z11, ez11⟩ : ∃ y : Int32, y = x3 + (1 : Int32) := ⟨_, rfl⟩
            have hw := hw z11 ez11
            refine v_iinc (v := z11) (lv2 := [(0, .ref a0.1), (1, .int x1), (2, .int z10), (3, .int z11)]) (pc2 := 47) S 3 dX9_canOpen_44 rfl (by rw [ez11]; rfl) (by decide) [1, 2, 3, 0] rfl rfl ?_
            refine v_goto (tgt := 4) S dX9_canOpen_47 (by decide) ?_
            exact ih z10 z11 hw
          · have hw := hw.2 c9
            refine v_aload_n (pc2 := 30) S 0 dX9_canOpen_29 rfl rfl rfl ?_
            refine v_iload_n (pc2 := 31) S 3 dX9_canOpen_30 rfl rfl rfl ?_
            refine v_callV (pc2 := 34) (As := [.int x3]) (rest := [.int x2]) S (c_X9_reason l G a0 v0 x3 _ hw) mf_X9_reason u_868 u_870 u_24 0 9 rfl rfl rfl rfl ⟨rfl, rfl⟩ ⟨Nat.le_of_ble_eq_true rfl, Nat.le_of_ble_eq_true rfl⟩ ⟨Nat.le_of_ble_eq_true rfl, Nat.le_of_ble_eq_true rfl⟩ (Nat.le_of_ble_eq_true rfl) dX9_canOpen_31 (frW _) rfl (pi (fun r12 u13 hw => ?_))
            refine v_to (wMod G a0 v0.1 v0.2.1 v0.2.2.1 v0.2.2.2.1 v0.2.2.2.2.1 v0.2.2.2.2.2.1 v0.2.2.2.2.2.2.1 v0.2.2.2.2.2.2.2.1 v0.2.2.2.2.2.2.2.2.1 v0.2.2.2.2.2.2.2.2.2.1 v0.2.2.2.2.2.2.2.2.2.2.1 v0.2.2.2.2.2.2.2.2.2.2.2.1 v0.2.2.2.2.2.2.2.2.2.2.2.2.1 v0.2.2.2.2.2.2.2.2.2.2.2.2.2.1 v0.2.2.2.2.2.2.2.2.2.2.2.2.2.2.1 v0.2.2.2.2.2.2.2.2.2.2.2.2.2.2.2.1 v0.2.2.2.2.2.2.2.2.2.2.2.2.2.2.2.2) 34 [(0, .ref a0.1), (1, .int x1), (2, .int x2), (3, .int x3)] _ [.int r12, .int x2] rfl rfl rfl rfl ?_
            refine v_if_ne (pc2 := 37) (tgt := 41) S dX9_canOpen_34 (by decide) rfl (fun c14 => ?_) (fun c14 => ?_)
            · have hw := hw.1 c14
              refine v_iconst (v := 0) (pc2 := 42) S dX9_canOpen_41 (by decide) rfl ?_
              refine v_iadd (pc2 := 43) S dX9_canOpen_42 rfl ?_
              refine v_nm (fun z15 ez15 => ?_)
              have hw := hw z15 ez15
              refine v_istore_n (lv2 := [(0, .ref a0.1), (1, .int x1), (2, .int z15), (3, .int x3)]) (pc2 := 44) S dX9_canOpen_43 rfl (by decide) [1, 2, 0, 3] rfl rfl ?_
              obtain ⟨z16, ez16⟩ : ∃ y : Int32, y = x3 + (1 : Int32) := ⟨_, rfl⟩
              have hw := hw z16 ez16
              refine v_iinc (v := z16) (lv2 := [(0, .ref a0.1), (1, .int x1), (2, .int z15), (3, .int z16)]) (pc2 := 47) S 3 dX9_canOpen_44 rfl (by rw [ez16]; rfl) (by decide) [1, 2, 3, 0] rfl rfl ?_
              refine v_goto (tgt := 4) S dX9_canOpen_47 (by decide) ?_
              exact ih z15 z16 hw
            · have hw := hw.2 c14
              refine v_iconst (v := 1) (pc2 := 38) S dX9_canOpen_37 (by decide) rfl ?_
              refine v_goto (tgt := 42) S dX9_canOpen_38 (by decide) ?_
              refine v_iadd (pc2 := 43) S dX9_canOpen_42 rfl ?_
              refine v_nm (fun z17 ez17 => ?_)
              have hw := hw z17 ez17
              refine v_istore_n (lv2 := [(0, .ref a0.1), (1, .int x1), (2, .int z17), (3, .int x3)]) (pc2 := 44) S dX9_canOpen_43 rfl (by decide) [1, 2, 0, 3] rfl rfl ?_
              obtain ⟨z18, ez18⟩ : ∃ y : Int32, y = x3 + (1 : Int32) := ⟨_, rfl⟩
              have hw := hw z18 ez18
              refine v_iinc (v := z18) (lv2 := [(0, .ref a0.1), (1, .int x1), (2, .int z17), (3, .int z18)]) (pc2 := 47) S 3 dX9_canOpen_44 rfl (by rw [ez18]; rfl) (by decide) [1, 2, 3, 0] rfl rfl ?_
              refine v_goto (tgt := 4) S dX9_canOpen_47 (by decide) ?_
              exact ih z17 z18 hw
  refine v_iconst (v := 0) (pc2 := 1) S dX9_canOpen_0 (by decide) rfl ?_
  refine v_istore_n (lv2 := [(0, .ref a0.1), (1, .int i0), (2, .int (0 : Int32))]) (pc2 := 2) S dX9_canOpen_1 rfl (by decide) [1, 2, 0] rfl rfl ?_
  refine v_iconst (v := 0) (pc2 := 3) S dX9_canOpen_2 (by decide) rfl ?_
  refine v_istore_n (lv2 := [(0, .ref a0.1), (1, .int i0), (2, .int (0 : Int32)), (3, .int (0 : Int32))]) (pc2 := 4) S dX9_canOpen_3 rfl (by decide) [1, 2, 3, 0] rfl rfl ?_
  obtain ⟨kk, hw⟩ := hw
  exact L4 i0 kk (0 : Int32) (0 : Int32) hw
set_option maxHeartbeats 4000000 in
set_option maxRecDepth 100000 in
theorem c_X9_guest (l : Launch) (G : GG) (a0 : ModA) (v0 : ModV) (i0 : Int32) (i1 : Int32) (Q : Int32 → Prop) (hw : wp_X9_guest v0 i0 i1 Q) : Con l G yX9_guest cX9_guest 3 (some .int) { frames := 5, cells := 0, slots := 0, locals := 112 } [.ref a0.1, .int i0, .int i1] (wMod G a0 v0.1 v0.2.1 v0.2.2.1 v0.2.2.2.1 v0.2.2.2.2.1 v0.2.2.2.2.2.1 v0.2.2.2.2.2.2.1 v0.2.2.2.2.2.2.2.1 v0.2.2.2.2.2.2.2.2.1 v0.2.2.2.2.2.2.2.2.2.1 v0.2.2.2.2.2.2.2.2.2.2.1 v0.2.2.2.2.2.2.2.2.2.2.2.1 v0.2.2.2.2.2.2.2.2.2.2.2.2.1 v0.2.2.2.2.2.2.2.2.2.2.2.2.2.1 v0.2.2.2.2.2.2.2.2.2.2.2.2.2.2.1 v0.2.2.2.2.2.2.2.2.2.2.2.2.2.2.2.1 v0.2.2.2.2.2.2.2.2.2.2.2.2.2.2.2.2) (PI (fun _ : Unit => wMod G a0 v0.1 v0.2.1 v0.2.2.1 v0.2.2.2.1 v0.2.2.2.2.1 v0.2.2.2.2.2.1 v0.2.2.2.2.2.2.1 v0.2.2.2.2.2.2.2.1 v0.2.2.2.2.2.2.2.2.1 v0.2.2.2.2.2.2.2.2.2.1 v0.2.2.2.2.2.2.2.2.2.2.1 v0.2.2.2.2.2.2.2.2.2.2.2.1 v0.2.2.2.2.2.2.2.2.2.2.2.2.1 v0.2.2.2.2.2.2.2.2.2.2.2.2.2.1 v0.2.2.2.2.2.2.2.2.2.2.2.2.2.2.1 v0.2.2.2.2.2.2.2.2.2.2.2.2.2.2.2.1 v0.2.2.2.2.2.2.2.2.2.2.2.2.2.2.2.2) (fun r _ => Q r)) 0 0 := by
  refine con_of RX9 rfl (by decide) [(0, .ref a0.1), (1, .int i0), (2, .int i1)] rfl (Nat.le_of_ble_eq_true rfl) ?_
  intro p e s m args below meth c S hname
  refine v_iload_n (pc2 := 1) S 1 dX9_guest_0 rfl rfl rfl ?_
  refine v_callS (pc2 := 4) (As := [.int i0]) (rest := []) S (c_X9_isGuest l G i0 _ hw) mf_X9_isGuest u_920 u_921 rfl rfl ⟨rfl, rfl⟩ ⟨Nat.le_of_ble_eq_true rfl, Nat.le_of_ble_eq_true rfl⟩ ⟨Nat.le_of_ble_eq_true rfl, Nat.le_of_ble_eq_true rfl⟩ (Nat.le_of_ble_eq_true rfl) dX9_guest_1 (frM [] [] _) rfl (pb (fun r1 u2 br1 hw => ?_))
  refine v_to (wMod G a0 v0.1 v0.2.1 v0.2.2.1 v0.2.2.2.1 v0.2.2.2.2.1 v0.2.2.2.2.2.1 v0.2.2.2.2.2.2.1 v0.2.2.2.2.2.2.2.1 v0.2.2.2.2.2.2.2.2.1 v0.2.2.2.2.2.2.2.2.2.1 v0.2.2.2.2.2.2.2.2.2.2.1 v0.2.2.2.2.2.2.2.2.2.2.2.1 v0.2.2.2.2.2.2.2.2.2.2.2.2.1 v0.2.2.2.2.2.2.2.2.2.2.2.2.2.1 v0.2.2.2.2.2.2.2.2.2.2.2.2.2.2.1 v0.2.2.2.2.2.2.2.2.2.2.2.2.2.2.2.1 v0.2.2.2.2.2.2.2.2.2.2.2.2.2.2.2.2) 4 [(0, .ref a0.1), (1, .int i0), (2, .int i1)] _ [.int r1] rfl rfl rfl rfl ?_
  refine v_if_ne (pc2 := 7) (tgt := 9) S dX9_guest_4 (by decide) rfl (fun c3 => ?_) (fun c3 => ?_)
  · have hw := hw.1 c3
    refine v_iload_n (pc2 := 10) S 2 dX9_guest_9 rfl rfl rfl ?_
    by_cases c4 : i1 = (0 : Int32)
    · have hw := hw.1 c4
      refine v_tableIn (off := 30) (tgt := 40) S dX9_guest_10 (by rw [c4]; decide) (by rw [c4]; decide) (by rw [c4]; rfl) (by decide) ?_
      refine v_aload_n (pc2 := 41) S 0 dX9_guest_40 rfl rfl rfl ?_
      refine v_iload_n (pc2 := 42) S 1 dX9_guest_41 rfl rfl rfl ?_
      refine v_iload_n (pc2 := 43) S 2 dX9_guest_42 rfl rfl rfl ?_
      refine v_callV (pc2 := 46) (As := [.int i0, .int i1]) (rest := []) S (c_X9_ofGuest l G a0 v0 i0 i1 _ hw) mf_X9_ofGuest u_931 u_933 u_37 0 9 rfl rfl rfl rfl ⟨rfl, rfl⟩ ⟨Nat.le_of_ble_eq_true rfl, Nat.le_of_ble_eq_true rfl⟩ ⟨Nat.le_of_ble_eq_true rfl, Nat.le_of_ble_eq_true rfl⟩ (Nat.le_of_ble_eq_true rfl) dX9_guest_43 (frW _) rfl (pi (fun r5 u6 hw => ?_))
      refine v_to (wMod G a0 v0.1 v0.2.1 v0.2.2.1 v0.2.2.2.1 v0.2.2.2.2.1 v0.2.2.2.2.2.1 v0.2.2.2.2.2.2.1 v0.2.2.2.2.2.2.2.1 v0.2.2.2.2.2.2.2.2.1 v0.2.2.2.2.2.2.2.2.2.1 v0.2.2.2.2.2.2.2.2.2.2.1 v0.2.2.2.2.2.2.2.2.2.2.2.1 v0.2.2.2.2.2.2.2.2.2.2.2.2.1 v0.2.2.2.2.2.2.2.2.2.2.2.2.2.1 v0.2.2.2.2.2.2.2.2.2.2.2.2.2.2.1 v0.2.2.2.2.2.2.2.2.2.2.2.2.2.2.2.1 v0.2.2.2.2.2.2.2.2.2.2.2.2.2.2.2.2) 46 [(0, .ref a0.1), (1, .int i0), (2, .int i1)] _ [.int r5] rfl rfl rfl rfl ?_
      exact v_iret S ⟨r5, (), rfl, rfl, hw⟩ dX9_guest_46
    · have hw := hw.2
      by_cases c7 : i1 = (1 : Int32)
      · have hw := hw.1 c7
        refine v_tableIn (off := 30) (tgt := 40) S dX9_guest_10 (by rw [c7]; decide) (by rw [c7]; decide) (by rw [c7]; rfl) (by decide) ?_
        refine v_aload_n (pc2 := 41) S 0 dX9_guest_40 rfl rfl rfl ?_
        refine v_iload_n (pc2 := 42) S 1 dX9_guest_41 rfl rfl rfl ?_
        refine v_iload_n (pc2 := 43) S 2 dX9_guest_42 rfl rfl rfl ?_
        refine v_callV (pc2 := 46) (As := [.int i0, .int i1]) (rest := []) S (c_X9_ofGuest l G a0 v0 i0 i1 _ hw) mf_X9_ofGuest u_931 u_933 u_37 0 9 rfl rfl rfl rfl ⟨rfl, rfl⟩ ⟨Nat.le_of_ble_eq_true rfl, Nat.le_of_ble_eq_true rfl⟩ ⟨Nat.le_of_ble_eq_true rfl, Nat.le_of_ble_eq_true rfl⟩ (Nat.le_of_ble_eq_true rfl) dX9_guest_43 (frW _) rfl (pi (fun r8 u9 hw => ?_))
        refine v_to (wMod G a0 v0.1 v0.2.1 v0.2.2.1 v0.2.2.2.1 v0.2.2.2.2.1 v0.2.2.2.2.2.1 v0.2.2.2.2.2.2.1 v0.2.2.2.2.2.2.2.1 v0.2.2.2.2.2.2.2.2.1 v0.2.2.2.2.2.2.2.2.2.1 v0.2.2.2.2.2.2.2.2.2.2.1 v0.2.2.2.2.2.2.2.2.2.2.2.1 v0.2.2.2.2.2.2.2.2.2.2.2.2.1 v0.2.2.2.2.2.2.2.2.2.2.2.2.2.1 v0.2.2.2.2.2.2.2.2.2.2.2.2.2.2.1 v0.2.2.2.2.2.2.2.2.2.2.2.2.2.2.2.1 v0.2.2.2.2.2.2.2.2.2.2.2.2.2.2.2.2) 46 [(0, .ref a0.1), (1, .int i0), (2, .int i1)] _ [.int r8] rfl rfl rfl rfl ?_
        exact v_iret S ⟨r8, (), rfl, rfl, hw⟩ dX9_guest_46
      · have hw := hw.2
        by_cases c10 : i1 = (2 : Int32)
        · have hw := hw.1 c10
          refine v_tableIn (off := 37) (tgt := 47) S dX9_guest_10 (by rw [c10]; decide) (by rw [c10]; decide) (by rw [c10]; rfl) (by decide) ?_
          refine v_aload_n (pc2 := 48) S 0 dX9_guest_47 rfl rfl rfl ?_
          refine v_iload_n (pc2 := 49) S 1 dX9_guest_48 rfl rfl rfl ?_
          refine v_callV (pc2 := 52) (As := [.int i0]) (rest := []) S (c_X9_canOpen l G a0 v0 i0 _ hw) mf_X9_canOpen u_1057 u_1059 u_53 0 9 rfl rfl rfl rfl ⟨rfl, rfl⟩ ⟨Nat.le_of_ble_eq_true rfl, Nat.le_of_ble_eq_true rfl⟩ ⟨Nat.le_of_ble_eq_true rfl, Nat.le_of_ble_eq_true rfl⟩ (Nat.le_of_ble_eq_true rfl) dX9_guest_49 (frW _) rfl (pi (fun r11 u12 hw => ?_))
          refine v_to (wMod G a0 v0.1 v0.2.1 v0.2.2.1 v0.2.2.2.1 v0.2.2.2.2.1 v0.2.2.2.2.2.1 v0.2.2.2.2.2.2.1 v0.2.2.2.2.2.2.2.1 v0.2.2.2.2.2.2.2.2.1 v0.2.2.2.2.2.2.2.2.2.1 v0.2.2.2.2.2.2.2.2.2.2.1 v0.2.2.2.2.2.2.2.2.2.2.2.1 v0.2.2.2.2.2.2.2.2.2.2.2.2.1 v0.2.2.2.2.2.2.2.2.2.2.2.2.2.1 v0.2.2.2.2.2.2.2.2.2.2.2.2.2.2.1 v0.2.2.2.2.2.2.2.2.2.2.2.2.2.2.2.1 v0.2.2.2.2.2.2.2.2.2.2.2.2.2.2.2.2) 52 [(0, .ref a0.1), (1, .int i0), (2, .int i1)] _ [.int r11] rfl rfl rfl rfl ?_
          exact v_iret S ⟨r11, (), rfl, rfl, hw⟩ dX9_guest_52
        · have hw := hw.2
          by_cases c13 : i1 = (3 : Int32)
          · have hw := hw.1 c13
            refine v_tableIn (off := 43) (tgt := 53) S dX9_guest_10 (by rw [c13]; decide) (by rw [c13]; decide) (by rw [c13]; rfl) (by decide) ?_
            refine v_aload_n (pc2 := 54) S 0 dX9_guest_53 rfl rfl rfl ?_
            refine v_iload_n (pc2 := 55) S 1 dX9_guest_54 rfl rfl rfl ?_
            refine v_iconst (v := 2) (pc2 := 56) S dX9_guest_55 (by decide) rfl ?_
            refine v_callV (pc2 := 59) (As := [.int i0, .int (2 : Int32)]) (rest := []) S (c_X9_ofGuest l G a0 v0 i0 (2 : Int32) _ hw) mf_X9_ofGuest u_931 u_933 u_37 0 9 rfl rfl rfl rfl ⟨rfl, rfl⟩ ⟨Nat.le_of_ble_eq_true rfl, Nat.le_of_ble_eq_true rfl⟩ ⟨Nat.le_of_ble_eq_true rfl, Nat.le_of_ble_eq_true rfl⟩ (Nat.le_of_ble_eq_true rfl) dX9_guest_56 (frW _) rfl (pi (fun r14 u15 hw => ?_))
            refine v_to (wMod G a0 v0.1 v0.2.1 v0.2.2.1 v0.2.2.2.1 v0.2.2.2.2.1 v0.2.2.2.2.2.1 v0.2.2.2.2.2.2.1 v0.2.2.2.2.2.2.2.1 v0.2.2.2.2.2.2.2.2.1 v0.2.2.2.2.2.2.2.2.2.1 v0.2.2.2.2.2.2.2.2.2.2.1 v0.2.2.2.2.2.2.2.2.2.2.2.1 v0.2.2.2.2.2.2.2.2.2.2.2.2.1 v0.2.2.2.2.2.2.2.2.2.2.2.2.2.1 v0.2.2.2.2.2.2.2.2.2.2.2.2.2.2.1 v0.2.2.2.2.2.2.2.2.2.2.2.2.2.2.2.1 v0.2.2.2.2.2.2.2.2.2.2.2.2.2.2.2.2) 59 [(0, .ref a0.1), (1, .int i0), (2, .int i1)] _ [.int r14] rfl rfl rfl rfl ?_
            exact v_iret S ⟨r14, (), rfl, rfl, hw⟩ dX9_guest_59
          · have hw := hw.2
            have hw := hw c4 c7 c10 c13
            refine v_tableOut (tgt := 60) S dX9_guest_10 (sw_out3 c4 c7 c10 c13) (by decide) ?_
            refine v_iconst (v := -1) (pc2 := 61) S dX9_guest_60 (by decide) rfl ?_
            exact v_iret S ⟨(-1 : Int32), (), rfl, rfl, hw⟩ dX9_guest_61
  · have hw := hw.2 c3
    refine v_iconst (v := -1) (pc2 := 8) S dX9_guest_7 (by decide) rfl ?_
    exact v_iret S ⟨(-1 : Int32), (), rfl, rfl, hw⟩ dX9_guest_8
set_option maxHeartbeats 4000000 in
set_option maxRecDepth 100000 in
theorem c_X9_whyNot (l : Launch) (G : GG) (a0 : ModA) (v0 : ModV) (i0 : Int32) (Q : Int32 → Prop) (hw : wp_X9_whyNot v0 i0 Q) : Con l G yX9_whyNot cX9_whyNot 2 (some .int) { frames := 4, cells := 0, slots := 0, locals := 89 } [.ref a0.1, .int i0] (wMod G a0 v0.1 v0.2.1 v0.2.2.1 v0.2.2.2.1 v0.2.2.2.2.1 v0.2.2.2.2.2.1 v0.2.2.2.2.2.2.1 v0.2.2.2.2.2.2.2.1 v0.2.2.2.2.2.2.2.2.1 v0.2.2.2.2.2.2.2.2.2.1 v0.2.2.2.2.2.2.2.2.2.2.1 v0.2.2.2.2.2.2.2.2.2.2.2.1 v0.2.2.2.2.2.2.2.2.2.2.2.2.1 v0.2.2.2.2.2.2.2.2.2.2.2.2.2.1 v0.2.2.2.2.2.2.2.2.2.2.2.2.2.2.1 v0.2.2.2.2.2.2.2.2.2.2.2.2.2.2.2.1 v0.2.2.2.2.2.2.2.2.2.2.2.2.2.2.2.2) (PI (fun _ : Unit => wMod G a0 v0.1 v0.2.1 v0.2.2.1 v0.2.2.2.1 v0.2.2.2.2.1 v0.2.2.2.2.2.1 v0.2.2.2.2.2.2.1 v0.2.2.2.2.2.2.2.1 v0.2.2.2.2.2.2.2.2.1 v0.2.2.2.2.2.2.2.2.2.1 v0.2.2.2.2.2.2.2.2.2.2.1 v0.2.2.2.2.2.2.2.2.2.2.2.1 v0.2.2.2.2.2.2.2.2.2.2.2.2.1 v0.2.2.2.2.2.2.2.2.2.2.2.2.2.1 v0.2.2.2.2.2.2.2.2.2.2.2.2.2.2.1 v0.2.2.2.2.2.2.2.2.2.2.2.2.2.2.2.1 v0.2.2.2.2.2.2.2.2.2.2.2.2.2.2.2.2) (fun r _ => Q r)) 0 0 := by
  refine con_of RX9 rfl (by decide) [(0, .ref a0.1), (1, .int i0)] rfl (Nat.le_of_ble_eq_true rfl) ?_
  intro p e s m args below meth c S hname
  refine v_iload_n (pc2 := 1) S 1 dX9_whyNot_0 rfl rfl rfl ?_
  refine v_callS (pc2 := 4) (As := [.int i0]) (rest := []) S (c_X9_isDoor l G i0 _ hw) mf_X9_isDoor u_858 u_859 rfl rfl ⟨rfl, rfl⟩ ⟨Nat.le_of_ble_eq_true rfl, Nat.le_of_ble_eq_true rfl⟩ ⟨Nat.le_of_ble_eq_true rfl, Nat.le_of_ble_eq_true rfl⟩ (Nat.le_of_ble_eq_true rfl) dX9_whyNot_1 (frM [] [] _) rfl (pb (fun r1 u2 br1 hw => ?_))
  refine v_to (wMod G a0 v0.1 v0.2.1 v0.2.2.1 v0.2.2.2.1 v0.2.2.2.2.1 v0.2.2.2.2.2.1 v0.2.2.2.2.2.2.1 v0.2.2.2.2.2.2.2.1 v0.2.2.2.2.2.2.2.2.1 v0.2.2.2.2.2.2.2.2.2.1 v0.2.2.2.2.2.2.2.2.2.2.1 v0.2.2.2.2.2.2.2.2.2.2.2.1 v0.2.2.2.2.2.2.2.2.2.2.2.2.1 v0.2.2.2.2.2.2.2.2.2.2.2.2.2.1 v0.2.2.2.2.2.2.2.2.2.2.2.2.2.2.1 v0.2.2.2.2.2.2.2.2.2.2.2.2.2.2.2.1 v0.2.2.2.2.2.2.2.2.2.2.2.2.2.2.2.2) 4 [(0, .ref a0.1), (1, .int i0)] _ [.int r1] rfl rfl rfl rfl ?_
  refine v_if_eq (pc2 := 7) (tgt := 15) S dX9_whyNot_4 (by decide) rfl (fun c3 => ?_) (fun c3 => ?_)
  · have hw := hw.1 c3
    refine v_iconst (v := -1) (pc2 := 16) S dX9_whyNot_15 (by decide) rfl ?_
    exact v_iret S ⟨(-1 : Int32), (), rfl, rfl, hw⟩ dX9_whyNot_16
  · have hw := hw.2 c3
    refine v_aload_n (pc2 := 8) S 0 dX9_whyNot_7 rfl rfl rfl ?_
    refine v_iload_n (pc2 := 9) S 1 dX9_whyNot_8 rfl rfl rfl ?_
    refine v_callV (pc2 := 12) (As := [.int i0]) (rest := []) S (c_X9_reason l G a0 v0 i0 _ hw) mf_X9_reason u_868 u_870 u_24 0 9 rfl rfl rfl rfl ⟨rfl, rfl⟩ ⟨Nat.le_of_ble_eq_true rfl, Nat.le_of_ble_eq_true rfl⟩ ⟨Nat.le_of_ble_eq_true rfl, Nat.le_of_ble_eq_true rfl⟩ (Nat.le_of_ble_eq_true rfl) dX9_whyNot_9 (frW _) rfl (pi (fun r4 u5 hw => ?_))
    refine v_to (wMod G a0 v0.1 v0.2.1 v0.2.2.1 v0.2.2.2.1 v0.2.2.2.2.1 v0.2.2.2.2.2.1 v0.2.2.2.2.2.2.1 v0.2.2.2.2.2.2.2.1 v0.2.2.2.2.2.2.2.2.1 v0.2.2.2.2.2.2.2.2.2.1 v0.2.2.2.2.2.2.2.2.2.2.1 v0.2.2.2.2.2.2.2.2.2.2.2.1 v0.2.2.2.2.2.2.2.2.2.2.2.2.1 v0.2.2.2.2.2.2.2.2.2.2.2.2.2.1 v0.2.2.2.2.2.2.2.2.2.2.2.2.2.2.1 v0.2.2.2.2.2.2.2.2.2.2.2.2.2.2.2.1 v0.2.2.2.2.2.2.2.2.2.2.2.2.2.2.2.2) 12 [(0, .ref a0.1), (1, .int i0)] _ [.int r4] rfl rfl rfl rfl ?_
    refine v_goto (tgt := 16) S dX9_whyNot_12 (by decide) ?_
    exact v_iret S ⟨r4, (), rfl, rfl, hw⟩ dX9_whyNot_16
set_option maxHeartbeats 4000000 in
set_option maxRecDepth 100000 in
theorem c_X9_canBe (l : Launch) (G : GG) (a0 : ModA) (v0 : ModV) (i0 : Int32) (Q : Int32 → Prop) (hw : wp_X9_canBe v0 i0 Q) : Con l G yX9_canBe cX9_canBe 6 (some .boolean) { frames := 2, cells := 0, slots := 0, locals := 44 } [.ref a0.1, .int i0] (wMod G a0 v0.1 v0.2.1 v0.2.2.1 v0.2.2.2.1 v0.2.2.2.2.1 v0.2.2.2.2.2.1 v0.2.2.2.2.2.2.1 v0.2.2.2.2.2.2.2.1 v0.2.2.2.2.2.2.2.2.1 v0.2.2.2.2.2.2.2.2.2.1 v0.2.2.2.2.2.2.2.2.2.2.1 v0.2.2.2.2.2.2.2.2.2.2.2.1 v0.2.2.2.2.2.2.2.2.2.2.2.2.1 v0.2.2.2.2.2.2.2.2.2.2.2.2.2.1 v0.2.2.2.2.2.2.2.2.2.2.2.2.2.2.1 v0.2.2.2.2.2.2.2.2.2.2.2.2.2.2.2.1 v0.2.2.2.2.2.2.2.2.2.2.2.2.2.2.2.2) (PB (fun _ : Unit => wMod G a0 v0.1 v0.2.1 v0.2.2.1 v0.2.2.2.1 v0.2.2.2.2.1 v0.2.2.2.2.2.1 v0.2.2.2.2.2.2.1 v0.2.2.2.2.2.2.2.1 v0.2.2.2.2.2.2.2.2.1 v0.2.2.2.2.2.2.2.2.2.1 v0.2.2.2.2.2.2.2.2.2.2.1 v0.2.2.2.2.2.2.2.2.2.2.2.1 v0.2.2.2.2.2.2.2.2.2.2.2.2.1 v0.2.2.2.2.2.2.2.2.2.2.2.2.2.1 v0.2.2.2.2.2.2.2.2.2.2.2.2.2.2.1 v0.2.2.2.2.2.2.2.2.2.2.2.2.2.2.2.1 v0.2.2.2.2.2.2.2.2.2.2.2.2.2.2.2.2) (fun r _ => Q r)) 0 0 := by
  refine con_of RX9 rfl (by decide) [(0, .ref a0.1), (1, .int i0)] rfl (Nat.le_of_ble_eq_true rfl) ?_
  intro p e s m args below meth c S hname
  have L79 : ∀ (x1 : Int32) (x2 : Int32) (x3 : Int32) (K67 : Int32 → Int32 → Prop) (hK67 : ∀ (y0 : Int32) (y1 : Int32), K67 y0 y1 → V p l e { frames := 2, cells := 0, slots := 0, locals := 44 } s m args below meth c G (va_A (wMod G a0 v0.1 v0.2.1 v0.2.2.1 v0.2.2.2.1 v0.2.2.2.2.1 v0.2.2.2.2.2.1 v0.2.2.2.2.2.2.1 v0.2.2.2.2.2.2.2.1 v0.2.2.2.2.2.2.2.2.1 v0.2.2.2.2.2.2.2.2.2.1 v0.2.2.2.2.2.2.2.2.2.2.1 v0.2.2.2.2.2.2.2.2.2.2.2.1 v0.2.2.2.2.2.2.2.2.2.2.2.2.1 v0.2.2.2.2.2.2.2.2.2.2.2.2.2.1 v0.2.2.2.2.2.2.2.2.2.2.2.2.2.2.1 v0.2.2.2.2.2.2.2.2.2.2.2.2.2.2.2.1 v0.2.2.2.2.2.2.2.2.2.2.2.2.2.2.2.2) s.heap.size) 6 0 0 (MQ below (EQ G (wMod G a0 v0.1 v0.2.1 v0.2.2.1 v0.2.2.2.1 v0.2.2.2.2.1 v0.2.2.2.2.2.1 v0.2.2.2.2.2.2.1 v0.2.2.2.2.2.2.2.1 v0.2.2.2.2.2.2.2.2.1 v0.2.2.2.2.2.2.2.2.2.1 v0.2.2.2.2.2.2.2.2.2.2.1 v0.2.2.2.2.2.2.2.2.2.2.2.1 v0.2.2.2.2.2.2.2.2.2.2.2.2.1 v0.2.2.2.2.2.2.2.2.2.2.2.2.2.1 v0.2.2.2.2.2.2.2.2.2.2.2.2.2.2.1 v0.2.2.2.2.2.2.2.2.2.2.2.2.2.2.2.1 v0.2.2.2.2.2.2.2.2.2.2.2.2.2.2.2.2) s.heap.size (PB (fun _ : Unit => wMod G a0 v0.1 v0.2.1 v0.2.2.1 v0.2.2.2.1 v0.2.2.2.2.1 v0.2.2.2.2.2.1 v0.2.2.2.2.2.2.1 v0.2.2.2.2.2.2.2.1 v0.2.2.2.2.2.2.2.2.1 v0.2.2.2.2.2.2.2.2.2.1 v0.2.2.2.2.2.2.2.2.2.2.1 v0.2.2.2.2.2.2.2.2.2.2.2.1 v0.2.2.2.2.2.2.2.2.2.2.2.2.1 v0.2.2.2.2.2.2.2.2.2.2.2.2.2.1 v0.2.2.2.2.2.2.2.2.2.2.2.2.2.2.1 v0.2.2.2.2.2.2.2.2.2.2.2.2.2.2.2.1 v0.2.2.2.2.2.2.2.2.2.2.2.2.2.2.2.2) (fun r _ => Q r))) args s 0 0 (va_A (wMod G a0 v0.1 v0.2.1 v0.2.2.1 v0.2.2.2.1 v0.2.2.2.2.1 v0.2.2.2.2.2.1 v0.2.2.2.2.2.2.1 v0.2.2.2.2.2.2.2.1 v0.2.2.2.2.2.2.2.2.1 v0.2.2.2.2.2.2.2.2.2.1 v0.2.2.2.2.2.2.2.2.2.2.1 v0.2.2.2.2.2.2.2.2.2.2.2.1 v0.2.2.2.2.2.2.2.2.2.2.2.2.1 v0.2.2.2.2.2.2.2.2.2.2.2.2.2.1 v0.2.2.2.2.2.2.2.2.2.2.2.2.2.2.1 v0.2.2.2.2.2.2.2.2.2.2.2.2.2.2.2.1 v0.2.2.2.2.2.2.2.2.2.2.2.2.2.2.2.2) s.heap.size)) (wMod G a0 v0.1 v0.2.1 v0.2.2.1 v0.2.2.2.1 v0.2.2.2.2.1 v0.2.2.2.2.2.1 v0.2.2.2.2.2.2.1 v0.2.2.2.2.2.2.2.1 v0.2.2.2.2.2.2.2.2.1 v0.2.2.2.2.2.2.2.2.2.1 v0.2.2.2.2.2.2.2.2.2.2.1 v0.2.2.2.2.2.2.2.2.2.2.2.1 v0.2.2.2.2.2.2.2.2.2.2.2.2.1 v0.2.2.2.2.2.2.2.2.2.2.2.2.2.1 v0.2.2.2.2.2.2.2.2.2.2.2.2.2.2.1 v0.2.2.2.2.2.2.2.2.2.2.2.2.2.2.2.1 v0.2.2.2.2.2.2.2.2.2.2.2.2.2.2.2.2) 67 [(0, .ref a0.1), (1, .int x1), (2, .int y0), (3, .int y1)] []) (kk : Nat) (x4 : Int32) (x5 : Int32), wp_X9_canBe_L79 v0 x1 x2 x3 Q K67 kk x4 x5 → V p l e { frames := 2, cells := 0, slots := 0, locals := 44 } s m args below meth c G (va_A (wMod G a0 v0.1 v0.2.1 v0.2.2.1 v0.2.2.2.1 v0.2.2.2.2.1 v0.2.2.2.2.2.1 v0.2.2.2.2.2.2.1 v0.2.2.2.2.2.2.2.1 v0.2.2.2.2.2.2.2.2.1 v0.2.2.2.2.2.2.2.2.2.1 v0.2.2.2.2.2.2.2.2.2.2.1 v0.2.2.2.2.2.2.2.2.2.2.2.1 v0.2.2.2.2.2.2.2.2.2.2.2.2.1 v0.2.2.2.2.2.2.2.2.2.2.2.2.2.1 v0.2.2.2.2.2.2.2.2.2.2.2.2.2.2.1 v0.2.2.2.2.2.2.2.2.2.2.2.2.2.2.2.1 v0.2.2.2.2.2.2.2.2.2.2.2.2.2.2.2.2) s.heap.size) 6 0 0 (MQ below (EQ G (wMod G a0 v0.1 v0.2.1 v0.2.2.1 v0.2.2.2.1 v0.2.2.2.2.1 v0.2.2.2.2.2.1 v0.2.2.2.2.2.2.1 v0.2.2.2.2.2.2.2.1 v0.2.2.2.2.2.2.2.2.1 v0.2.2.2.2.2.2.2.2.2.1 v0.2.2.2.2.2.2.2.2.2.2.1 v0.2.2.2.2.2.2.2.2.2.2.2.1 v0.2.2.2.2.2.2.2.2.2.2.2.2.1 v0.2.2.2.2.2.2.2.2.2.2.2.2.2.1 v0.2.2.2.2.2.2.2.2.2.2.2.2.2.2.1 v0.2.2.2.2.2.2.2.2.2.2.2.2.2.2.2.1 v0.2.2.2.2.2.2.2.2.2.2.2.2.2.2.2.2) s.heap.size (PB (fun _ : Unit => wMod G a0 v0.1 v0.2.1 v0.2.2.1 v0.2.2.2.1 v0.2.2.2.2.1 v0.2.2.2.2.2.1 v0.2.2.2.2.2.2.1 v0.2.2.2.2.2.2.2.1 v0.2.2.2.2.2.2.2.2.1 v0.2.2.2.2.2.2.2.2.2.1 v0.2.2.2.2.2.2.2.2.2.2.1 v0.2.2.2.2.2.2.2.2.2.2.2.1 v0.2.2.2.2.2.2.2.2.2.2.2.2.1 v0.2.2.2.2.2.2.2.2.2.2.2.2.2.1 v0.2.2.2.2.2.2.2.2.2.2.2.2.2.2.1 v0.2.2.2.2.2.2.2.2.2.2.2.2.2.2.2.1 v0.2.2.2.2.2.2.2.2.2.2.2.2.2.2.2.2) (fun r _ => Q r))) args s 0 0 (va_A (wMod G a0 v0.1 v0.2.1 v0.2.2.1 v0.2.2.2.1 v0.2.2.2.2.1 v0.2.2.2.2.2.1 v0.2.2.2.2.2.2.1 v0.2.2.2.2.2.2.2.1 v0.2.2.2.2.2.2.2.2.1 v0.2.2.2.2.2.2.2.2.2.1 v0.2.2.2.2.2.2.2.2.2.2.1 v0.2.2.2.2.2.2.2.2.2.2.2.1 v0.2.2.2.2.2.2.2.2.2.2.2.2.1 v0.2.2.2.2.2.2.2.2.2.2.2.2.2.1 v0.2.2.2.2.2.2.2.2.2.2.2.2.2.2.1 v0.2.2.2.2.2.2.2.2.2.2.2.2.2.2.2.1 v0.2.2.2.2.2.2.2.2.2.2.2.2.2.2.2.2) s.heap.size)) (wMod G a0 v0.1 v0.2.1 v0.2.2.1 v0.2.2.2.1 v0.2.2.2.2.1 v0.2.2.2.2.2.1 v0.2.2.2.2.2.2.1 v0.2.2.2.2.2.2.2.1 v0.2.2.2.2.2.2.2.2.1 v0.2.2.2.2.2.2.2.2.2.1 v0.2.2.2.2.2.2.2.2.2.2.1 v0.2.2.2.2.2.2.2.2.2.2.2.1 v0.2.2.2.2.2.2.2.2.2.2.2.2.1 v0.2.2.2.2.2.2.2.2.2.2.2.2.2.1 v0.2.2.2.2.2.2.2.2.2.2.2.2.2.2.1 v0.2.2.2.2.2.2.2.2.2.2.2.2.2.2.2.1 v0.2.2.2.2.2.2.2.2.2.2.2.2.2.2.2.2) 79 [(0, .ref a0.1), (1, .int x1), (2, .int x2), (3, .int x3), (4, .int x4), (5, .int x5)] [] := by
    intro x1 x2 x3 K67 hK67 kk
    induction kk with
    | zero => intro x4 x5 hw; exact hw.elim
    | succ n ih =>
      intro x4 x5 hw
      refine v_iload (pc2 := 81) S 5 dX9_canBe_79 rfl rfl ?_
      refine v_bipush (v := 10) (pc2 := 83) S dX9_canBe_81 (by decide) rfl ?_
      refine v_icmp_ge (pc2 := 86) (tgt := 122) S dX9_canBe_83 (by decide) rfl (fun c3 => ?_) (fun c3 => ?_)
      · have hw := hw.1 c3
        refine v_iload_n (pc2 := 123) S 2 dX9_canBe_122 rfl rfl rfl ?_
        refine v_if_eq (pc2 := 126) (tgt := 141) S dX9_canBe_123 (by decide) rfl (fun c4 => ?_) (fun c4 => ?_)
        · have hw := hw.1 c4
          refine v_iconst (v := 0) (pc2 := 142) S dX9_canBe_141 (by decide) rfl ?_
          refine v_istore_n (lv2 := [(0, .ref a0.1), (1, .int x1), (2, .int (0 : Int32)), (3, .int x3), (4, .int x4), (5, .int x5)]) (pc2 := 143) S dX9_canBe_142 rfl (by decide) [1, 2, 0, 3, 4, 5] rfl rfl ?_
          obtain ⟨z5, ez5⟩ : ∃ y : Int32, y = x3 + (1 : Int32) := ⟨_, rfl⟩
          have hw := hw z5 ez5
          refine v_iinc (v := z5) (lv2 := [(0, .ref a0.1), (1, .int x1), (2, .int (0 : Int32)), (3, .int z5), (4, .int x4), (5, .int x5)]) (pc2 := 146) S 3 dX9_canBe_143 rfl (by rw [ez5]; rfl) (by decide) [1, 2, 3, 0, 4, 5] rfl rfl ?_
          refine v_goto (tgt := 67) S dX9_canBe_146 (by decide) ?_
          refine v_lv [(0, .ref a0.1), (1, .int x1), (2, .int (0 : Int32)), (3, .int z5)] [0, 1, 2, 3] rfl ?_
          exact hK67 (0 : Int32) z5 hw
        · have hw := hw.2 c4
          refine v_iload (pc2 := 128) S 4 dX9_canBe_126 rfl rfl ?_
          refine v_aload_n (pc2 := 129) S 0 dX9_canBe_128 rfl rfl rfl ?_
          refine v_get (v := .ref a0.2.1) (pc2 := 132) S gf_X9_7 0 rfl rfl dX9_canBe_129 rfl ?_
          refine v_iconst (v := 0) (pc2 := 133) S dX9_canBe_132 (by decide) rfl ?_
          obtain ⟨h6, hw⟩ := hw
          refine v_iald (pc2 := 134) S 1 rfl h6 dX9_canBe_133 rfl ?_
          refine v_icmp_gt (pc2 := 137) (tgt := 141) S dX9_canBe_134 (by decide) rfl (fun c7 => ?_) (fun c7 => ?_)
          · have hw := hw.1 c7
            refine v_iconst (v := 0) (pc2 := 142) S dX9_canBe_141 (by decide) rfl ?_
            refine v_istore_n (lv2 := [(0, .ref a0.1), (1, .int x1), (2, .int (0 : Int32)), (3, .int x3), (4, .int x4), (5, .int x5)]) (pc2 := 143) S dX9_canBe_142 rfl (by decide) [1, 2, 0, 3, 4, 5] rfl rfl ?_
            obtain ⟨z8, ez8⟩ : ∃ y : Int32, y = x3 + (1 : Int32) := ⟨_, rfl⟩
            have hw := hw z8 ez8
            refine v_iinc (v := z8) (lv2 := [(0, .ref a0.1), (1, .int x1), (2, .int (0 : Int32)), (3, .int z8), (4, .int x4), (5, .int x5)]) (pc2 := 146) S 3 dX9_canBe_143 rfl (by rw [ez8]; rfl) (by decide) [1, 2, 3, 0, 4, 5] rfl rfl ?_
            refine v_goto (tgt := 67) S dX9_canBe_146 (by decide) ?_
            refine v_lv [(0, .ref a0.1), (1, .int x1), (2, .int (0 : Int32)), (3, .int z8)] [0, 1, 2, 3] rfl ?_
            exact hK67 (0 : Int32) z8 hw
          · have hw := hw.2 c7
            refine v_iconst (v := 1) (pc2 := 138) S dX9_canBe_137 (by decide) rfl ?_
            refine v_goto (tgt := 142) S dX9_canBe_138 (by decide) ?_
            refine v_istore_n (lv2 := [(0, .ref a0.1), (1, .int x1), (2, .int (1 : Int32)), (3, .int x3), (4, .int x4), (5, .int x5)]) (pc2 := 143) S dX9_canBe_142 rfl (by decide) [1, 2, 0, 3, 4, 5] rfl rfl ?_
            obtain ⟨z9, ez9⟩ : ∃ y : Int32, y = x3 + (1 : Int32) := ⟨_, rfl⟩
            have hw := hw z9 ez9
            refine v_iinc (v := z9) (lv2 := [(0, .ref a0.1), (1, .int x1), (2, .int (1 : Int32)), (3, .int z9), (4, .int x4), (5, .int x5)]) (pc2 := 146) S 3 dX9_canBe_143 rfl (by rw [ez9]; rfl) (by decide) [1, 2, 3, 0, 4, 5] rfl rfl ?_
            refine v_goto (tgt := 67) S dX9_canBe_146 (by decide) ?_
            refine v_lv [(0, .ref a0.1), (1, .int x1), (2, .int (1 : Int32)), (3, .int z9)] [0, 1, 2, 3] rfl ?_
            exact hK67 (1 : Int32) z9 hw
      · have hw := hw.2 c3
        refine v_iload (pc2 := 88) S 4 dX9_canBe_86 rfl rfl ?_
        refine v_iload_n (pc2 := 89) S 1 dX9_canBe_88 rfl rfl rfl ?_
        refine v_iload (pc2 := 91) S 5 dX9_canBe_89 rfl rfl ?_
        refine v_ishr (pc2 := 92) S dX9_canBe_91 rfl ?_
        refine v_iconst (v := 1) (pc2 := 93) S dX9_canBe_92 (by decide) rfl ?_
        refine v_iand (pc2 := 94) S dX9_canBe_93 rfl ?_
        refine v_iconst (v := 1) (pc2 := 95) S dX9_canBe_94 (by decide) rfl ?_
        refine v_icmp_ne (pc2 := 98) (tgt := 112) S dX9_canBe_95 (by decide) rfl (fun c10 => ?_) (fun c10 => ?_)
        · have hw := hw.1 c10
          refine v_iconst (v := 0) (pc2 := 113) S dX9_canBe_112 (by decide) rfl ?_
          refine v_iadd (pc2 := 114) S dX9_canBe_113 rfl ?_
          refine v_nm (fun z11 ez11 => ?_)
          have hw := hw z11 ez11
          refine v_istore (lv2 := [(0, .ref a0.1), (1, .int x1), (2, .int x2), (3, .int x3), (4, .int z11), (5, .int x5)]) (pc2 := 116) S dX9_canBe_114 (by decide) [1, 2, 3, 4, 0, 5] rfl rfl ?_
          obtain ⟨z12, ez12⟩ : ∃ y : Int32, y = x5 + (1 : Int32) := ⟨_, rfl⟩
          have hw := hw z12 ez12
          refine v_iinc (v := z12) (lv2 := [(0, .ref a0.1), (1, .int x1), (2, .int x2), (3, .int x3), (4, .int z11), (5, .int z12)]) (pc2 := 119) S 5 dX9_canBe_116 rfl (by rw [ez12]; rfl) (by decide) [1, 2, 3, 4, 5, 0] rfl rfl ?_
          refine v_goto (tgt := 79) S dX9_canBe_119 (by decide) ?_
          exact ih z11 z12 hw
        · have hw := hw.2 c10
          refine v_aload_n (pc2 := 99) S 0 dX9_canBe_98 rfl rfl rfl ?_
          refine v_iload (pc2 := 101) S 5 dX9_canBe_99 rfl rfl ?_
          refine v_iload_n (pc2 := 102) S 3 dX9_canBe_101 rfl rfl rfl ?_
          refine v_callV (pc2 := 105) (As := [.int x5, .int x3]) (rest := [.int x4]) S (c_X9_joins l G a0 v0 x5 x3 _ hw) mf_X9_joins u_900 u_902 u_32 0 9 rfl rfl rfl rfl ⟨rfl, rfl⟩ ⟨Nat.le_of_ble_eq_true rfl, Nat.le_of_ble_eq_true rfl⟩ ⟨Nat.le_of_ble_eq_true rfl, Nat.le_of_ble_eq_true rfl⟩ (Nat.le_of_ble_eq_true rfl) dX9_canBe_102 (frW _) rfl (pb (fun r13 u14 br13 hw => ?_))
          refine v_to (wMod G a0 v0.1 v0.2.1 v0.2.2.1 v0.2.2.2.1 v0.2.2.2.2.1 v0.2.2.2.2.2.1 v0.2.2.2.2.2.2.1 v0.2.2.2.2.2.2.2.1 v0.2.2.2.2.2.2.2.2.1 v0.2.2.2.2.2.2.2.2.2.1 v0.2.2.2.2.2.2.2.2.2.2.1 v0.2.2.2.2.2.2.2.2.2.2.2.1 v0.2.2.2.2.2.2.2.2.2.2.2.2.1 v0.2.2.2.2.2.2.2.2.2.2.2.2.2.1 v0.2.2.2.2.2.2.2.2.2.2.2.2.2.2.1 v0.2.2.2.2.2.2.2.2.2.2.2.2.2.2.2.1 v0.2.2.2.2.2.2.2.2.2.2.2.2.2.2.2.2) 105 [(0, .ref a0.1), (1, .int x1), (2, .int x2), (3, .int x3), (4, .int x4), (5, .int x5)] _ [.int r13, .int x4] rfl rfl rfl rfl ?_
          refine v_if_eq (pc2 := 108) (tgt := 112) S dX9_canBe_105 (by decide) rfl (fun c15 => ?_) (fun c15 => ?_)
          · have hw := hw.1 c15
            refine v_iconst (v := 0) (pc2 := 113) S dX9_canBe_112 (by decide) rfl ?_
            refine v_iadd (pc2 := 114) S dX9_canBe_113 rfl ?_
            refine v_nm (fun z16 ez16 => ?_)
            have hw := hw z16 ez16
            refine v_istore (lv2 := [(0, .ref a0.1), (1, .int x1), (2, .int x2), (3, .int x3), (4, .int z16), (5, .int x5)]) (pc2 := 116) S dX9_canBe_114 (by decide) [1, 2, 3, 4, 0, 5] rfl rfl ?_
            obtain ⟨z17, ez17⟩ : ∃ y : Int32, y = x5 + (1 : Int32) := ⟨_, rfl⟩
            have hw := hw z17 ez17
            refine v_iinc (v := z17) (lv2 := [(0, .ref a0.1), (1, .int x1), (2, .int x2), (3, .int x3), (4, .int z16), (5, .int z17)]) (pc2 := 119) S 5 dX9_canBe_116 rfl (by rw [ez17]; rfl) (by decide) [1, 2, 3, 4, 5, 0] rfl rfl ?_
            refine v_goto (tgt := 79) S dX9_canBe_119 (by decide) ?_
            exact ih z16 z17 hw
          · have hw := hw.2 c15
            refine v_iconst (v := 1) (pc2 := 109) S dX9_canBe_108 (by decide) rfl ?_
            refine v_goto (tgt := 113) S dX9_canBe_109 (by decide) ?_
            refine v_iadd (pc2 := 114) S dX9_canBe_113 rfl ?_
            refine v_nm (fun z18 ez18 => ?_)
            have hw := hw z18 ez18
            refine v_istore (lv2 := [(0, .ref a0.1), (1, .int x1), (2, .int x2), (3, .int x3), (4, .int z18), (5, .int x5)]) (pc2 := 116) S dX9_canBe_114 (by decide) [1, 2, 3, 4, 0, 5] rfl rfl ?_
            obtain ⟨z19, ez19⟩ : ∃ y : Int32, y = x5 + (1 : Int32) := ⟨_, rfl⟩
            have hw := hw z19 ez19
            refine v_iinc (v := z19) (lv2 := [(0, .ref a0.1), (1, .int x1), (2, .int x2), (3, .int x3), (4, .int z18), (5, .int z19)]) (pc2 := 119) S 5 dX9_canBe_116 rfl (by rw [ez19]; rfl) (by decide) [1, 2, 3, 4, 5, 0] rfl rfl ?_
            refine v_goto (tgt := 79) S dX9_canBe_119 (by decide) ?_
            exact ih z18 z19 hw
  have L67 : ∀ (x1 : Int32) (kk : Nat) (x2 : Int32) (x3 : Int32), wp_X9_canBe_L67 v0 x1 Q kk x2 x3 → V p l e { frames := 2, cells := 0, slots := 0, locals := 44 } s m args below meth c G (va_A (wMod G a0 v0.1 v0.2.1 v0.2.2.1 v0.2.2.2.1 v0.2.2.2.2.1 v0.2.2.2.2.2.1 v0.2.2.2.2.2.2.1 v0.2.2.2.2.2.2.2.1 v0.2.2.2.2.2.2.2.2.1 v0.2.2.2.2.2.2.2.2.2.1 v0.2.2.2.2.2.2.2.2.2.2.1 v0.2.2.2.2.2.2.2.2.2.2.2.1 v0.2.2.2.2.2.2.2.2.2.2.2.2.1 v0.2.2.2.2.2.2.2.2.2.2.2.2.2.1 v0.2.2.2.2.2.2.2.2.2.2.2.2.2.2.1 v0.2.2.2.2.2.2.2.2.2.2.2.2.2.2.2.1 v0.2.2.2.2.2.2.2.2.2.2.2.2.2.2.2.2) s.heap.size) 6 0 0 (MQ below (EQ G (wMod G a0 v0.1 v0.2.1 v0.2.2.1 v0.2.2.2.1 v0.2.2.2.2.1 v0.2.2.2.2.2.1 v0.2.2.2.2.2.2.1 v0.2.2.2.2.2.2.2.1 v0.2.2.2.2.2.2.2.2.1 v0.2.2.2.2.2.2.2.2.2.1 v0.2.2.2.2.2.2.2.2.2.2.1 v0.2.2.2.2.2.2.2.2.2.2.2.1 v0.2.2.2.2.2.2.2.2.2.2.2.2.1 v0.2.2.2.2.2.2.2.2.2.2.2.2.2.1 v0.2.2.2.2.2.2.2.2.2.2.2.2.2.2.1 v0.2.2.2.2.2.2.2.2.2.2.2.2.2.2.2.1 v0.2.2.2.2.2.2.2.2.2.2.2.2.2.2.2.2) s.heap.size (PB (fun _ : Unit => wMod G a0 v0.1 v0.2.1 v0.2.2.1 v0.2.2.2.1 v0.2.2.2.2.1 v0.2.2.2.2.2.1 v0.2.2.2.2.2.2.1 v0.2.2.2.2.2.2.2.1 v0.2.2.2.2.2.2.2.2.1 v0.2.2.2.2.2.2.2.2.2.1 v0.2.2.2.2.2.2.2.2.2.2.1 v0.2.2.2.2.2.2.2.2.2.2.2.1 v0.2.2.2.2.2.2.2.2.2.2.2.2.1 v0.2.2.2.2.2.2.2.2.2.2.2.2.2.1 v0.2.2.2.2.2.2.2.2.2.2.2.2.2.2.1 v0.2.2.2.2.2.2.2.2.2.2.2.2.2.2.2.1 v0.2.2.2.2.2.2.2.2.2.2.2.2.2.2.2.2) (fun r _ => Q r))) args s 0 0 (va_A (wMod G a0 v0.1 v0.2.1 v0.2.2.1 v0.2.2.2.1 v0.2.2.2.2.1 v0.2.2.2.2.2.1 v0.2.2.2.2.2.2.1 v0.2.2.2.2.2.2.2.1 v0.2.2.2.2.2.2.2.2.1 v0.2.2.2.2.2.2.2.2.2.1 v0.2.2.2.2.2.2.2.2.2.2.1 v0.2.2.2.2.2.2.2.2.2.2.2.1 v0.2.2.2.2.2.2.2.2.2.2.2.2.1 v0.2.2.2.2.2.2.2.2.2.2.2.2.2.1 v0.2.2.2.2.2.2.2.2.2.2.2.2.2.2.1 v0.2.2.2.2.2.2.2.2.2.2.2.2.2.2.2.1 v0.2.2.2.2.2.2.2.2.2.2.2.2.2.2.2.2) s.heap.size)) (wMod G a0 v0.1 v0.2.1 v0.2.2.1 v0.2.2.2.1 v0.2.2.2.2.1 v0.2.2.2.2.2.1 v0.2.2.2.2.2.2.1 v0.2.2.2.2.2.2.2.1 v0.2.2.2.2.2.2.2.2.1 v0.2.2.2.2.2.2.2.2.2.1 v0.2.2.2.2.2.2.2.2.2.2.1 v0.2.2.2.2.2.2.2.2.2.2.2.1 v0.2.2.2.2.2.2.2.2.2.2.2.2.1 v0.2.2.2.2.2.2.2.2.2.2.2.2.2.1 v0.2.2.2.2.2.2.2.2.2.2.2.2.2.2.1 v0.2.2.2.2.2.2.2.2.2.2.2.2.2.2.2.1 v0.2.2.2.2.2.2.2.2.2.2.2.2.2.2.2.2) 67 [(0, .ref a0.1), (1, .int x1), (2, .int x2), (3, .int x3)] [] := by
    intro x1 kk
    induction kk with
    | zero => intro x2 x3 hw; exact hw.elim
    | succ n ih =>
      intro x2 x3 hw
      refine v_iload_n (pc2 := 68) S 3 dX9_canBe_67 rfl rfl rfl ?_
      refine v_bipush (v := 6) (pc2 := 70) S dX9_canBe_68 (by decide) rfl ?_
      refine v_icmp_ge (pc2 := 73) (tgt := 149) S dX9_canBe_70 (by decide) rfl (fun c2 => ?_) (fun c2 => ?_)
      · have hw := hw.1 c2
        refine v_iload_n (pc2 := 150) S 2 dX9_canBe_149 rfl rfl rfl ?_
        obtain ⟨hb, hw⟩ := hw
        exact v_zret S hb ⟨x2, (), rfl, hb, rfl, hw⟩ dX9_canBe_150
      · have hw := hw.2 c2
        refine v_iconst (v := 0) (pc2 := 74) S dX9_canBe_73 (by decide) rfl ?_
        refine v_istore (lv2 := [(0, .ref a0.1), (1, .int x1), (2, .int x2), (3, .int x3), (4, .int (0 : Int32))]) (pc2 := 76) S dX9_canBe_74 (by decide) [1, 2, 3, 4, 0] rfl rfl ?_
        refine v_iconst (v := 0) (pc2 := 77) S dX9_canBe_76 (by decide) rfl ?_
        refine v_istore (lv2 := [(0, .ref a0.1), (1, .int x1), (2, .int x2), (3, .int x3), (4, .int (0 : Int32)), (5, .int (0 : Int32))]) (pc2 := 79) S dX9_canBe_77 (by decide) [1, 2, 3, 4, 5, 0] rfl rfl ?_
        obtain ⟨kk, hw⟩ := hw
        exact L79 x1 x2 x3 (wp_X9_canBe_L67 v0 x1 Q n) ih kk (0 : Int32) (0 : Int32) hw
  have L13 : ∀ (x1 : Int32) (x3 : Int32) (K4 : Int32 → Int32 → Prop) (hK4 : ∀ (y0 : Int32) (y1 : Int32), K4 y0 y1 → V p l e { frames := 2, cells := 0, slots := 0, locals := 44 } s m args below meth c G (va_A (wMod G a0 v0.1 v0.2.1 v0.2.2.1 v0.2.2.2.1 v0.2.2.2.2.1 v0.2.2.2.2.2.1 v0.2.2.2.2.2.2.1 v0.2.2.2.2.2.2.2.1 v0.2.2.2.2.2.2.2.2.1 v0.2.2.2.2.2.2.2.2.2.1 v0.2.2.2.2.2.2.2.2.2.2.1 v0.2.2.2.2.2.2.2.2.2.2.2.1 v0.2.2.2.2.2.2.2.2.2.2.2.2.1 v0.2.2.2.2.2.2.2.2.2.2.2.2.2.1 v0.2.2.2.2.2.2.2.2.2.2.2.2.2.2.1 v0.2.2.2.2.2.2.2.2.2.2.2.2.2.2.2.1 v0.2.2.2.2.2.2.2.2.2.2.2.2.2.2.2.2) s.heap.size) 6 0 0 (MQ below (EQ G (wMod G a0 v0.1 v0.2.1 v0.2.2.1 v0.2.2.2.1 v0.2.2.2.2.1 v0.2.2.2.2.2.1 v0.2.2.2.2.2.2.1 v0.2.2.2.2.2.2.2.1 v0.2.2.2.2.2.2.2.2.1 v0.2.2.2.2.2.2.2.2.2.1 v0.2.2.2.2.2.2.2.2.2.2.1 v0.2.2.2.2.2.2.2.2.2.2.2.1 v0.2.2.2.2.2.2.2.2.2.2.2.2.1 v0.2.2.2.2.2.2.2.2.2.2.2.2.2.1 v0.2.2.2.2.2.2.2.2.2.2.2.2.2.2.1 v0.2.2.2.2.2.2.2.2.2.2.2.2.2.2.2.1 v0.2.2.2.2.2.2.2.2.2.2.2.2.2.2.2.2) s.heap.size (PB (fun _ : Unit => wMod G a0 v0.1 v0.2.1 v0.2.2.1 v0.2.2.2.1 v0.2.2.2.2.1 v0.2.2.2.2.2.1 v0.2.2.2.2.2.2.1 v0.2.2.2.2.2.2.2.1 v0.2.2.2.2.2.2.2.2.1 v0.2.2.2.2.2.2.2.2.2.1 v0.2.2.2.2.2.2.2.2.2.2.1 v0.2.2.2.2.2.2.2.2.2.2.2.1 v0.2.2.2.2.2.2.2.2.2.2.2.2.1 v0.2.2.2.2.2.2.2.2.2.2.2.2.2.1 v0.2.2.2.2.2.2.2.2.2.2.2.2.2.2.1 v0.2.2.2.2.2.2.2.2.2.2.2.2.2.2.2.1 v0.2.2.2.2.2.2.2.2.2.2.2.2.2.2.2.2) (fun r _ => Q r))) args s 0 0 (va_A (wMod G a0 v0.1 v0.2.1 v0.2.2.1 v0.2.2.2.1 v0.2.2.2.2.1 v0.2.2.2.2.2.1 v0.2.2.2.2.2.2.1 v0.2.2.2.2.2.2.2.1 v0.2.2.2.2.2.2.2.2.1 v0.2.2.2.2.2.2.2.2.2.1 v0.2.2.2.2.2.2.2.2.2.2.1 v0.2.2.2.2.2.2.2.2.2.2.2.1 v0.2.2.2.2.2.2.2.2.2.2.2.2.1 v0.2.2.2.2.2.2.2.2.2.2.2.2.2.1 v0.2.2.2.2.2.2.2.2.2.2.2.2.2.2.1 v0.2.2.2.2.2.2.2.2.2.2.2.2.2.2.2.1 v0.2.2.2.2.2.2.2.2.2.2.2.2.2.2.2.2) s.heap.size)) (wMod G a0 v0.1 v0.2.1 v0.2.2.1 v0.2.2.2.1 v0.2.2.2.2.1 v0.2.2.2.2.2.1 v0.2.2.2.2.2.2.1 v0.2.2.2.2.2.2.2.1 v0.2.2.2.2.2.2.2.2.1 v0.2.2.2.2.2.2.2.2.2.1 v0.2.2.2.2.2.2.2.2.2.2.1 v0.2.2.2.2.2.2.2.2.2.2.2.1 v0.2.2.2.2.2.2.2.2.2.2.2.2.1 v0.2.2.2.2.2.2.2.2.2.2.2.2.2.1 v0.2.2.2.2.2.2.2.2.2.2.2.2.2.2.1 v0.2.2.2.2.2.2.2.2.2.2.2.2.2.2.2.1 v0.2.2.2.2.2.2.2.2.2.2.2.2.2.2.2.2) 4 [(0, .ref a0.1), (1, .int x1), (2, .int y0), (3, .int y1)] []) (kk : Nat) (x2 : Int32) (x4 : Int32), wp_X9_canBe_L13 v0 x1 x3 Q K4 kk x2 x4 → V p l e { frames := 2, cells := 0, slots := 0, locals := 44 } s m args below meth c G (va_A (wMod G a0 v0.1 v0.2.1 v0.2.2.1 v0.2.2.2.1 v0.2.2.2.2.1 v0.2.2.2.2.2.1 v0.2.2.2.2.2.2.1 v0.2.2.2.2.2.2.2.1 v0.2.2.2.2.2.2.2.2.1 v0.2.2.2.2.2.2.2.2.2.1 v0.2.2.2.2.2.2.2.2.2.2.1 v0.2.2.2.2.2.2.2.2.2.2.2.1 v0.2.2.2.2.2.2.2.2.2.2.2.2.1 v0.2.2.2.2.2.2.2.2.2.2.2.2.2.1 v0.2.2.2.2.2.2.2.2.2.2.2.2.2.2.1 v0.2.2.2.2.2.2.2.2.2.2.2.2.2.2.2.1 v0.2.2.2.2.2.2.2.2.2.2.2.2.2.2.2.2) s.heap.size) 6 0 0 (MQ below (EQ G (wMod G a0 v0.1 v0.2.1 v0.2.2.1 v0.2.2.2.1 v0.2.2.2.2.1 v0.2.2.2.2.2.1 v0.2.2.2.2.2.2.1 v0.2.2.2.2.2.2.2.1 v0.2.2.2.2.2.2.2.2.1 v0.2.2.2.2.2.2.2.2.2.1 v0.2.2.2.2.2.2.2.2.2.2.1 v0.2.2.2.2.2.2.2.2.2.2.2.1 v0.2.2.2.2.2.2.2.2.2.2.2.2.1 v0.2.2.2.2.2.2.2.2.2.2.2.2.2.1 v0.2.2.2.2.2.2.2.2.2.2.2.2.2.2.1 v0.2.2.2.2.2.2.2.2.2.2.2.2.2.2.2.1 v0.2.2.2.2.2.2.2.2.2.2.2.2.2.2.2.2) s.heap.size (PB (fun _ : Unit => wMod G a0 v0.1 v0.2.1 v0.2.2.1 v0.2.2.2.1 v0.2.2.2.2.1 v0.2.2.2.2.2.1 v0.2.2.2.2.2.2.1 v0.2.2.2.2.2.2.2.1 v0.2.2.2.2.2.2.2.2.1 v0.2.2.2.2.2.2.2.2.2.1 v0.2.2.2.2.2.2.2.2.2.2.1 v0.2.2.2.2.2.2.2.2.2.2.2.1 v0.2.2.2.2.2.2.2.2.2.2.2.2.1 v0.2.2.2.2.2.2.2.2.2.2.2.2.2.1 v0.2.2.2.2.2.2.2.2.2.2.2.2.2.2.1 v0.2.2.2.2.2.2.2.2.2.2.2.2.2.2.2.1 v0.2.2.2.2.2.2.2.2.2.2.2.2.2.2.2.2) (fun r _ => Q r))) args s 0 0 (va_A (wMod G a0 v0.1 v0.2.1 v0.2.2.1 v0.2.2.2.1 v0.2.2.2.2.1 v0.2.2.2.2.2.1 v0.2.2.2.2.2.2.1 v0.2.2.2.2.2.2.2.1 v0.2.2.2.2.2.2.2.2.1 v0.2.2.2.2.2.2.2.2.2.1 v0.2.2.2.2.2.2.2.2.2.2.1 v0.2.2.2.2.2.2.2.2.2.2.2.1 v0.2.2.2.2.2.2.2.2.2.2.2.2.1 v0.2.2.2.2.2.2.2.2.2.2.2.2.2.1 v0.2.2.2.2.2.2.2.2.2.2.2.2.2.2.1 v0.2.2.2.2.2.2.2.2.2.2.2.2.2.2.2.1 v0.2.2.2.2.2.2.2.2.2.2.2.2.2.2.2.2) s.heap.size)) (wMod G a0 v0.1 v0.2.1 v0.2.2.1 v0.2.2.2.1 v0.2.2.2.2.1 v0.2.2.2.2.2.1 v0.2.2.2.2.2.2.1 v0.2.2.2.2.2.2.2.1 v0.2.2.2.2.2.2.2.2.1 v0.2.2.2.2.2.2.2.2.2.1 v0.2.2.2.2.2.2.2.2.2.2.1 v0.2.2.2.2.2.2.2.2.2.2.2.1 v0.2.2.2.2.2.2.2.2.2.2.2.2.1 v0.2.2.2.2.2.2.2.2.2.2.2.2.2.1 v0.2.2.2.2.2.2.2.2.2.2.2.2.2.2.1 v0.2.2.2.2.2.2.2.2.2.2.2.2.2.2.2.1 v0.2.2.2.2.2.2.2.2.2.2.2.2.2.2.2.2) 13 [(0, .ref a0.1), (1, .int x1), (2, .int x2), (3, .int x3), (4, .int x4)] [] := by
    intro x1 x3 K4 hK4 kk
    induction kk with
    | zero => intro x2 x4 hw; exact hw.elim
    | succ n ih =>
      intro x2 x4 hw
      refine v_iload (pc2 := 15) S 4 dX9_canBe_13 rfl rfl ?_
      refine v_bipush (v := 10) (pc2 := 17) S dX9_canBe_15 (by decide) rfl ?_
      refine v_icmp_ge (pc2 := 20) (tgt := 59) S dX9_canBe_17 (by decide) rfl (fun c20 => ?_) (fun c20 => ?_)
      · have hw := hw.1 c20
        obtain ⟨z21, ez21⟩ : ∃ y : Int32, y = x3 + (1 : Int32) := ⟨_, rfl⟩
        have hw := hw z21 ez21
        refine v_iinc (v := z21) (lv2 := [(0, .ref a0.1), (1, .int x1), (2, .int x2), (3, .int z21), (4, .int x4)]) (pc2 := 62) S 3 dX9_canBe_59 rfl (by rw [ez21]; rfl) (by decide) [1, 2, 3, 0, 4] rfl rfl ?_
        refine v_goto (tgt := 4) S dX9_canBe_62 (by decide) ?_
        refine v_lv [(0, .ref a0.1), (1, .int x1), (2, .int x2), (3, .int z21)] [0, 1, 2, 3] rfl ?_
        exact hK4 x2 z21 hw
      · have hw := hw.2 c20
        refine v_iload_n (pc2 := 21) S 2 dX9_canBe_20 rfl rfl rfl ?_
        refine v_if_eq (pc2 := 24) (tgt := 51) S dX9_canBe_21 (by decide) rfl (fun c22 => ?_) (fun c22 => ?_)
        · have hw := hw.1 c22
          refine v_iconst (v := 0) (pc2 := 52) S dX9_canBe_51 (by decide) rfl ?_
          refine v_istore_n (lv2 := [(0, .ref a0.1), (1, .int x1), (2, .int (0 : Int32)), (3, .int x3), (4, .int x4)]) (pc2 := 53) S dX9_canBe_52 rfl (by decide) [1, 2, 0, 3, 4] rfl rfl ?_
          obtain ⟨z23, ez23⟩ : ∃ y : Int32, y = x4 + (1 : Int32) := ⟨_, rfl⟩
          have hw := hw z23 ez23
          refine v_iinc (v := z23) (lv2 := [(0, .ref a0.1), (1, .int x1), (2, .int (0 : Int32)), (3, .int x3), (4, .int z23)]) (pc2 := 56) S 4 dX9_canBe_53 rfl (by rw [ez23]; rfl) (by decide) [1, 2, 3, 4, 0] rfl rfl ?_
          refine v_goto (tgt := 13) S dX9_canBe_56 (by decide) ?_
          exact ih (0 : Int32) z23 hw
        · have hw := hw.2 c22
          refine v_iload_n (pc2 := 25) S 1 dX9_canBe_24 rfl rfl rfl ?_
          refine v_iload_n (pc2 := 26) S 3 dX9_canBe_25 rfl rfl rfl ?_
          refine v_ishr (pc2 := 27) S dX9_canBe_26 rfl ?_
          refine v_iload_n (pc2 := 28) S 1 dX9_canBe_27 rfl rfl rfl ?_
          refine v_iload (pc2 := 30) S 4 dX9_canBe_28 rfl rfl ?_
          refine v_ishr (pc2 := 31) S dX9_canBe_30 rfl ?_
          refine v_iand (pc2 := 32) S dX9_canBe_31 rfl ?_
          refine v_iconst (v := 1) (pc2 := 33) S dX9_canBe_32 (by decide) rfl ?_
          refine v_iand (pc2 := 34) S dX9_canBe_33 rfl ?_
          refine v_if_eq (pc2 := 37) (tgt := 47) S dX9_canBe_34 (by decide) rfl (fun c24 => ?_) (fun c24 => ?_)
          · have hw := hw.1 c24
            refine v_iconst (v := 1) (pc2 := 48) S dX9_canBe_47 (by decide) rfl ?_
            refine v_goto (tgt := 52) S dX9_canBe_48 (by decide) ?_
            refine v_istore_n (lv2 := [(0, .ref a0.1), (1, .int x1), (2, .int (1 : Int32)), (3, .int x3), (4, .int x4)]) (pc2 := 53) S dX9_canBe_52 rfl (by decide) [1, 2, 0, 3, 4] rfl rfl ?_
            obtain ⟨z25, ez25⟩ : ∃ y : Int32, y = x4 + (1 : Int32) := ⟨_, rfl⟩
            have hw := hw z25 ez25
            refine v_iinc (v := z25) (lv2 := [(0, .ref a0.1), (1, .int x1), (2, .int (1 : Int32)), (3, .int x3), (4, .int z25)]) (pc2 := 56) S 4 dX9_canBe_53 rfl (by rw [ez25]; rfl) (by decide) [1, 2, 3, 4, 0] rfl rfl ?_
            refine v_goto (tgt := 13) S dX9_canBe_56 (by decide) ?_
            exact ih (1 : Int32) z25 hw
          · have hw := hw.2 c24
            refine v_aload_n (pc2 := 38) S 0 dX9_canBe_37 rfl rfl rfl ?_
            refine v_iload_n (pc2 := 39) S 3 dX9_canBe_38 rfl rfl rfl ?_
            refine v_iload (pc2 := 41) S 4 dX9_canBe_39 rfl rfl ?_
            refine v_callV (pc2 := 44) (As := [.int x3, .int x4]) (rest := []) S (c_X9_goesTo l G a0 v0 x3 x4 _ hw) mf_X9_goesTo u_880 u_882 u_27 0 9 rfl rfl rfl rfl ⟨rfl, rfl⟩ ⟨Nat.le_of_ble_eq_true rfl, Nat.le_of_ble_eq_true rfl⟩ ⟨Nat.le_of_ble_eq_true rfl, Nat.le_of_ble_eq_true rfl⟩ (Nat.le_of_ble_eq_true rfl) dX9_canBe_41 (frW _) rfl (pb (fun r26 u27 br26 hw => ?_))
            refine v_to (wMod G a0 v0.1 v0.2.1 v0.2.2.1 v0.2.2.2.1 v0.2.2.2.2.1 v0.2.2.2.2.2.1 v0.2.2.2.2.2.2.1 v0.2.2.2.2.2.2.2.1 v0.2.2.2.2.2.2.2.2.1 v0.2.2.2.2.2.2.2.2.2.1 v0.2.2.2.2.2.2.2.2.2.2.1 v0.2.2.2.2.2.2.2.2.2.2.2.1 v0.2.2.2.2.2.2.2.2.2.2.2.2.1 v0.2.2.2.2.2.2.2.2.2.2.2.2.2.1 v0.2.2.2.2.2.2.2.2.2.2.2.2.2.2.1 v0.2.2.2.2.2.2.2.2.2.2.2.2.2.2.2.1 v0.2.2.2.2.2.2.2.2.2.2.2.2.2.2.2.2) 44 [(0, .ref a0.1), (1, .int x1), (2, .int x2), (3, .int x3), (4, .int x4)] _ [.int r26] rfl rfl rfl rfl ?_
            refine v_if_ne (pc2 := 47) (tgt := 51) S dX9_canBe_44 (by decide) rfl (fun c28 => ?_) (fun c28 => ?_)
            · have hw := hw.1 c28
              refine v_iconst (v := 0) (pc2 := 52) S dX9_canBe_51 (by decide) rfl ?_
              refine v_istore_n (lv2 := [(0, .ref a0.1), (1, .int x1), (2, .int (0 : Int32)), (3, .int x3), (4, .int x4)]) (pc2 := 53) S dX9_canBe_52 rfl (by decide) [1, 2, 0, 3, 4] rfl rfl ?_
              obtain ⟨z29, ez29⟩ : ∃ y : Int32, y = x4 + (1 : Int32) := ⟨_, rfl⟩
              have hw := hw z29 ez29
              refine v_iinc (v := z29) (lv2 := [(0, .ref a0.1), (1, .int x1), (2, .int (0 : Int32)), (3, .int x3), (4, .int z29)]) (pc2 := 56) S 4 dX9_canBe_53 rfl (by rw [ez29]; rfl) (by decide) [1, 2, 3, 4, 0] rfl rfl ?_
              refine v_goto (tgt := 13) S dX9_canBe_56 (by decide) ?_
              exact ih (0 : Int32) z29 hw
            · have hw := hw.2 c28
              refine v_iconst (v := 1) (pc2 := 48) S dX9_canBe_47 (by decide) rfl ?_
              refine v_goto (tgt := 52) S dX9_canBe_48 (by decide) ?_
              refine v_istore_n (lv2 := [(0, .ref a0.1), (1, .int x1), (2, .int (1 : Int32)), (3, .int x3), (4, .int x4)]) (pc2 := 53) S dX9_canBe_52 rfl (by decide) [1, 2, 0, 3, 4] rfl rfl ?_
              obtain ⟨z30, ez30⟩ : ∃ y : Int32, y = x4 + (1 : Int32) := ⟨_, rfl⟩
              have hw := hw z30 ez30
              refine v_iinc (v := z30) (lv2 := [(0, .ref a0.1), (1, .int x1), (2, .int (1 : Int32)), (3, .int x3), (4, .int z30)]) (pc2 := 56) S 4 dX9_canBe_53 rfl (by rw [ez30]; rfl) (by decide) [1, 2, 3, 4, 0] rfl rfl ?_
              refine v_goto (tgt := 13) S dX9_canBe_56 (by decide) ?_
              exact ih (1 : Int32) z30 hw
  have L4 : ∀ (x1 : Int32) (kk : Nat) (x2 : Int32) (x3 : Int32), wp_X9_canBe_L4 v0 x1 Q kk x2 x3 → V p l e { frames := 2, cells := 0, slots := 0, locals := 44 } s m args below meth c G (va_A (wMod G a0 v0.1 v0.2.1 v0.2.2.1 v0.2.2.2.1 v0.2.2.2.2.1 v0.2.2.2.2.2.1 v0.2.2.2.2.2.2.1 v0.2.2.2.2.2.2.2.1 v0.2.2.2.2.2.2.2.2.1 v0.2.2.2.2.2.2.2.2.2.1 v0.2.2.2.2.2.2.2.2.2.2.1 v0.2.2.2.2.2.2.2.2.2.2.2.1 v0.2.2.2.2.2.2.2.2.2.2.2.2.1 v0.2.2.2.2.2.2.2.2.2.2.2.2.2.1 v0.2.2.2.2.2.2.2.2.2.2.2.2.2.2.1 v0.2.2.2.2.2.2.2.2.2.2.2.2.2.2.2.1 v0.2.2.2.2.2.2.2.2.2.2.2.2.2.2.2.2) s.heap.size) 6 0 0 (MQ below (EQ G (wMod G a0 v0.1 v0.2.1 v0.2.2.1 v0.2.2.2.1 v0.2.2.2.2.1 v0.2.2.2.2.2.1 v0.2.2.2.2.2.2.1 v0.2.2.2.2.2.2.2.1 v0.2.2.2.2.2.2.2.2.1 v0.2.2.2.2.2.2.2.2.2.1 v0.2.2.2.2.2.2.2.2.2.2.1 v0.2.2.2.2.2.2.2.2.2.2.2.1 v0.2.2.2.2.2.2.2.2.2.2.2.2.1 v0.2.2.2.2.2.2.2.2.2.2.2.2.2.1 v0.2.2.2.2.2.2.2.2.2.2.2.2.2.2.1 v0.2.2.2.2.2.2.2.2.2.2.2.2.2.2.2.1 v0.2.2.2.2.2.2.2.2.2.2.2.2.2.2.2.2) s.heap.size (PB (fun _ : Unit => wMod G a0 v0.1 v0.2.1 v0.2.2.1 v0.2.2.2.1 v0.2.2.2.2.1 v0.2.2.2.2.2.1 v0.2.2.2.2.2.2.1 v0.2.2.2.2.2.2.2.1 v0.2.2.2.2.2.2.2.2.1 v0.2.2.2.2.2.2.2.2.2.1 v0.2.2.2.2.2.2.2.2.2.2.1 v0.2.2.2.2.2.2.2.2.2.2.2.1 v0.2.2.2.2.2.2.2.2.2.2.2.2.1 v0.2.2.2.2.2.2.2.2.2.2.2.2.2.1 v0.2.2.2.2.2.2.2.2.2.2.2.2.2.2.1 v0.2.2.2.2.2.2.2.2.2.2.2.2.2.2.2.1 v0.2.2.2.2.2.2.2.2.2.2.2.2.2.2.2.2) (fun r _ => Q r))) args s 0 0 (va_A (wMod G a0 v0.1 v0.2.1 v0.2.2.1 v0.2.2.2.1 v0.2.2.2.2.1 v0.2.2.2.2.2.1 v0.2.2.2.2.2.2.1 v0.2.2.2.2.2.2.2.1 v0.2.2.2.2.2.2.2.2.1 v0.2.2.2.2.2.2.2.2.2.1 v0.2.2.2.2.2.2.2.2.2.2.1 v0.2.2.2.2.2.2.2.2.2.2.2.1 v0.2.2.2.2.2.2.2.2.2.2.2.2.1 v0.2.2.2.2.2.2.2.2.2.2.2.2.2.1 v0.2.2.2.2.2.2.2.2.2.2.2.2.2.2.1 v0.2.2.2.2.2.2.2.2.2.2.2.2.2.2.2.1 v0.2.2.2.2.2.2.2.2.2.2.2.2.2.2.2.2) s.heap.size)) (wMod G a0 v0.1 v0.2.1 v0.2.2.1 v0.2.2.2.1 v0.2.2.2.2.1 v0.2.2.2.2.2.1 v0.2.2.2.2.2.2.1 v0.2.2.2.2.2.2.2.1 v0.2.2.2.2.2.2.2.2.1 v0.2.2.2.2.2.2.2.2.2.1 v0.2.2.2.2.2.2.2.2.2.2.1 v0.2.2.2.2.2.2.2.2.2.2.2.1 v0.2.2.2.2.2.2.2.2.2.2.2.2.1 v0.2.2.2.2.2.2.2.2.2.2.2.2.2.1 v0.2.2.2.2.2.2.2.2.2.2.2.2.2.2.1 v0.2.2.2.2.2.2.2.2.2.2.2.2.2.2.2.1 v0.2.2.2.2.2.2.2.2.2.2.2.2.2.2.2.2) 4 [(0, .ref a0.1), (1, .int x1), (2, .int x2), (3, .int x3)] [] := by
    intro x1 kk
    induction kk with
    | zero => intro x2 x3 hw; exact hw.elim
    | succ n ih =>
      intro x2 x3 hw
      refine v_iload_n (pc2 := 5) S 3 dX9_canBe_4 rfl rfl rfl ?_
      refine v_bipush (v := 10) (pc2 := 7) S dX9_canBe_5 (by decide) rfl ?_
      refine v_icmp_ge (pc2 := 10) (tgt := 65) S dX9_canBe_7 (by decide) rfl (fun c1 => ?_) (fun c1 => ?_)
      · have hw := hw.1 c1
        refine v_iconst (v := 0) (pc2 := 66) S dX9_canBe_65 (by decide) rfl ?_
        refine v_istore_n (lv2 := [(0, .ref a0.1), (1, .int x1), (2, .int x2), (3, .int (0 : Int32))]) (pc2 := 67) S dX9_canBe_66 rfl (by decide) [1, 2, 3, 0] rfl rfl ?_
        obtain ⟨kk, hw⟩ := hw
        exact L67 x1 kk x2 (0 : Int32) hw
      · have hw := hw.2 c1
        refine v_iconst (v := 0) (pc2 := 11) S dX9_canBe_10 (by decide) rfl ?_
        refine v_istore (lv2 := [(0, .ref a0.1), (1, .int x1), (2, .int x2), (3, .int x3), (4, .int (0 : Int32))]) (pc2 := 13) S dX9_canBe_11 (by decide) [1, 2, 3, 4, 0] rfl rfl ?_
        obtain ⟨kk, hw⟩ := hw
        exact L13 x1 x3 (wp_X9_canBe_L4 v0 x1 Q n) ih kk x2 (0 : Int32) hw
  refine v_iconst (v := 1) (pc2 := 1) S dX9_canBe_0 (by decide) rfl ?_
  refine v_istore_n (lv2 := [(0, .ref a0.1), (1, .int i0), (2, .int (1 : Int32))]) (pc2 := 2) S dX9_canBe_1 rfl (by decide) [1, 2, 0] rfl rfl ?_
  refine v_iconst (v := 0) (pc2 := 3) S dX9_canBe_2 (by decide) rfl ?_
  refine v_istore_n (lv2 := [(0, .ref a0.1), (1, .int i0), (2, .int (1 : Int32)), (3, .int (0 : Int32))]) (pc2 := 4) S dX9_canBe_3 rfl (by decide) [1, 2, 3, 0] rfl rfl ?_
  obtain ⟨kk, hw⟩ := hw
  exact L4 i0 kk (1 : Int32) (0 : Int32) hw
set_option maxHeartbeats 4000000 in
set_option maxRecDepth 100000 in
theorem c_X9_can (l : Launch) (G : GG) (a0 : ModA) (v0 : ModV) (i0 : Int32) (Q : Int32 → Prop) (hw : wp_X9_can v0 i0 Q) : Con l G yX9_can cX9_can 2 (some .int) { frames := 3, cells := 0, slots := 0, locals := 69 } [.ref a0.1, .int i0] (wMod G a0 v0.1 v0.2.1 v0.2.2.1 v0.2.2.2.1 v0.2.2.2.2.1 v0.2.2.2.2.2.1 v0.2.2.2.2.2.2.1 v0.2.2.2.2.2.2.2.1 v0.2.2.2.2.2.2.2.2.1 v0.2.2.2.2.2.2.2.2.2.1 v0.2.2.2.2.2.2.2.2.2.2.1 v0.2.2.2.2.2.2.2.2.2.2.2.1 v0.2.2.2.2.2.2.2.2.2.2.2.2.1 v0.2.2.2.2.2.2.2.2.2.2.2.2.2.1 v0.2.2.2.2.2.2.2.2.2.2.2.2.2.2.1 v0.2.2.2.2.2.2.2.2.2.2.2.2.2.2.2.1 v0.2.2.2.2.2.2.2.2.2.2.2.2.2.2.2.2) (PI (fun _ : Unit => wMod G a0 v0.1 v0.2.1 v0.2.2.1 v0.2.2.2.1 v0.2.2.2.2.1 v0.2.2.2.2.2.1 v0.2.2.2.2.2.2.1 v0.2.2.2.2.2.2.2.1 v0.2.2.2.2.2.2.2.2.1 v0.2.2.2.2.2.2.2.2.2.1 v0.2.2.2.2.2.2.2.2.2.2.1 v0.2.2.2.2.2.2.2.2.2.2.2.1 v0.2.2.2.2.2.2.2.2.2.2.2.2.1 v0.2.2.2.2.2.2.2.2.2.2.2.2.2.1 v0.2.2.2.2.2.2.2.2.2.2.2.2.2.2.1 v0.2.2.2.2.2.2.2.2.2.2.2.2.2.2.2.1 v0.2.2.2.2.2.2.2.2.2.2.2.2.2.2.2.2) (fun r _ => Q r)) 0 0 := by
  refine con_of RX9 rfl (by decide) [(0, .ref a0.1), (1, .int i0)] rfl (Nat.le_of_ble_eq_true rfl) ?_
  intro p e s m args below meth c S hname
  refine v_iload_n (pc2 := 1) S 1 dX9_can_0 rfl rfl rfl ?_
  refine v_iconst (v := 0) (pc2 := 2) S dX9_can_1 (by decide) rfl ?_
  refine v_sipush (v := 1023) (pc2 := 5) S dX9_can_2 (by decide) rfl ?_
  refine v_callS (pc2 := 8) (As := [.int i0, .int (0 : Int32), .int (1023 : Int32)]) (rest := []) S (c_X9_in l G i0 (0 : Int32) (1023 : Int32) _ hw) mf_X9_in u_861 u_862 rfl rfl ⟨rfl, rfl⟩ ⟨Nat.le_of_ble_eq_true rfl, Nat.le_of_ble_eq_true rfl⟩ ⟨Nat.le_of_ble_eq_true rfl, Nat.le_of_ble_eq_true rfl⟩ (Nat.le_of_ble_eq_true rfl) dX9_can_5 (frM [] [] _) rfl (pb (fun r1 u2 br1 hw => ?_))
  refine v_to (wMod G a0 v0.1 v0.2.1 v0.2.2.1 v0.2.2.2.1 v0.2.2.2.2.1 v0.2.2.2.2.2.1 v0.2.2.2.2.2.2.1 v0.2.2.2.2.2.2.2.1 v0.2.2.2.2.2.2.2.2.1 v0.2.2.2.2.2.2.2.2.2.1 v0.2.2.2.2.2.2.2.2.2.2.1 v0.2.2.2.2.2.2.2.2.2.2.2.1 v0.2.2.2.2.2.2.2.2.2.2.2.2.1 v0.2.2.2.2.2.2.2.2.2.2.2.2.2.1 v0.2.2.2.2.2.2.2.2.2.2.2.2.2.2.1 v0.2.2.2.2.2.2.2.2.2.2.2.2.2.2.2.1 v0.2.2.2.2.2.2.2.2.2.2.2.2.2.2.2.2) 8 [(0, .ref a0.1), (1, .int i0)] _ [.int r1] rfl rfl rfl rfl ?_
  refine v_if_ne (pc2 := 11) (tgt := 15) S dX9_can_8 (by decide) rfl (fun c3 => ?_) (fun c3 => ?_)
  · have hw := hw.1 c3
    refine v_aload_n (pc2 := 16) S 0 dX9_can_15 rfl rfl rfl ?_
    refine v_iload_n (pc2 := 17) S 1 dX9_can_16 rfl rfl rfl ?_
    refine v_callV (pc2 := 20) (As := [.int i0]) (rest := []) S (c_X9_canBe l G a0 v0 i0 _ hw) mf_X9_canBe u_1069 u_1071 u_54 0 9 rfl rfl rfl rfl ⟨rfl, rfl⟩ ⟨Nat.le_of_ble_eq_true rfl, Nat.le_of_ble_eq_true rfl⟩ ⟨Nat.le_of_ble_eq_true rfl, Nat.le_of_ble_eq_true rfl⟩ (Nat.le_of_ble_eq_true rfl) dX9_can_17 (frW _) rfl (pb (fun r4 u5 br4 hw => ?_))
    refine v_to (wMod G a0 v0.1 v0.2.1 v0.2.2.1 v0.2.2.2.1 v0.2.2.2.2.1 v0.2.2.2.2.2.1 v0.2.2.2.2.2.2.1 v0.2.2.2.2.2.2.2.1 v0.2.2.2.2.2.2.2.2.1 v0.2.2.2.2.2.2.2.2.2.1 v0.2.2.2.2.2.2.2.2.2.2.1 v0.2.2.2.2.2.2.2.2.2.2.2.1 v0.2.2.2.2.2.2.2.2.2.2.2.2.1 v0.2.2.2.2.2.2.2.2.2.2.2.2.2.1 v0.2.2.2.2.2.2.2.2.2.2.2.2.2.2.1 v0.2.2.2.2.2.2.2.2.2.2.2.2.2.2.2.1 v0.2.2.2.2.2.2.2.2.2.2.2.2.2.2.2.2) 20 [(0, .ref a0.1), (1, .int i0)] _ [.int r4] rfl rfl rfl rfl ?_
    refine v_if_eq (pc2 := 23) (tgt := 27) S dX9_can_20 (by decide) rfl (fun c6 => ?_) (fun c6 => ?_)
    · have hw := hw.1 c6
      refine v_iconst (v := 0) (pc2 := 28) S dX9_can_27 (by decide) rfl ?_
      exact v_iret S ⟨(0 : Int32), (), rfl, rfl, hw⟩ dX9_can_28
    · have hw := hw.2 c6
      refine v_iconst (v := 1) (pc2 := 24) S dX9_can_23 (by decide) rfl ?_
      refine v_goto (tgt := 28) S dX9_can_24 (by decide) ?_
      exact v_iret S ⟨(1 : Int32), (), rfl, rfl, hw⟩ dX9_can_28
  · have hw := hw.2 c3
    refine v_iconst (v := -1) (pc2 := 12) S dX9_can_11 (by decide) rfl ?_
    refine v_goto (tgt := 28) S dX9_can_12 (by decide) ?_
    exact v_iret S ⟨(-1 : Int32), (), rfl, rfl, hw⟩ dX9_can_28
set_option maxHeartbeats 4000000 in
set_option maxRecDepth 100000 in
theorem c_X9_together (l : Launch) (G : GG) (a0 : ModA) (v0 : ModV) (i0 : Int32) (Q : Int32 → Prop) (hw : wp_X9_together v0 i0 Q) : Con l G yX9_together cX9_together 4 (some .int) { frames := 3, cells := 0, slots := 0, locals := 69 } [.ref a0.1, .int i0] (wMod G a0 v0.1 v0.2.1 v0.2.2.1 v0.2.2.2.1 v0.2.2.2.2.1 v0.2.2.2.2.2.1 v0.2.2.2.2.2.2.1 v0.2.2.2.2.2.2.2.1 v0.2.2.2.2.2.2.2.2.1 v0.2.2.2.2.2.2.2.2.2.1 v0.2.2.2.2.2.2.2.2.2.2.1 v0.2.2.2.2.2.2.2.2.2.2.2.1 v0.2.2.2.2.2.2.2.2.2.2.2.2.1 v0.2.2.2.2.2.2.2.2.2.2.2.2.2.1 v0.2.2.2.2.2.2.2.2.2.2.2.2.2.2.1 v0.2.2.2.2.2.2.2.2.2.2.2.2.2.2.2.1 v0.2.2.2.2.2.2.2.2.2.2.2.2.2.2.2.2) (PI (fun _ : Unit => wMod G a0 v0.1 v0.2.1 v0.2.2.1 v0.2.2.2.1 v0.2.2.2.2.1 v0.2.2.2.2.2.1 v0.2.2.2.2.2.2.1 v0.2.2.2.2.2.2.2.1 v0.2.2.2.2.2.2.2.2.1 v0.2.2.2.2.2.2.2.2.2.1 v0.2.2.2.2.2.2.2.2.2.2.1 v0.2.2.2.2.2.2.2.2.2.2.2.1 v0.2.2.2.2.2.2.2.2.2.2.2.2.1 v0.2.2.2.2.2.2.2.2.2.2.2.2.2.1 v0.2.2.2.2.2.2.2.2.2.2.2.2.2.2.1 v0.2.2.2.2.2.2.2.2.2.2.2.2.2.2.2.1 v0.2.2.2.2.2.2.2.2.2.2.2.2.2.2.2.2) (fun r _ => Q r)) 0 0 := by
  refine con_of RX9 rfl (by decide) [(0, .ref a0.1), (1, .int i0)] rfl (Nat.le_of_ble_eq_true rfl) ?_
  intro p e s m args below meth c S hname
  have L15 : ∀ (kk : Nat) (x2 : Int32) (x3 : Int32), wp_X9_together_L15 v0 Q kk x2 x3 → V p l e { frames := 3, cells := 0, slots := 0, locals := 69 } s m args below meth c G (va_A (wMod G a0 v0.1 v0.2.1 v0.2.2.1 v0.2.2.2.1 v0.2.2.2.2.1 v0.2.2.2.2.2.1 v0.2.2.2.2.2.2.1 v0.2.2.2.2.2.2.2.1 v0.2.2.2.2.2.2.2.2.1 v0.2.2.2.2.2.2.2.2.2.1 v0.2.2.2.2.2.2.2.2.2.2.1 v0.2.2.2.2.2.2.2.2.2.2.2.1 v0.2.2.2.2.2.2.2.2.2.2.2.2.1 v0.2.2.2.2.2.2.2.2.2.2.2.2.2.1 v0.2.2.2.2.2.2.2.2.2.2.2.2.2.2.1 v0.2.2.2.2.2.2.2.2.2.2.2.2.2.2.2.1 v0.2.2.2.2.2.2.2.2.2.2.2.2.2.2.2.2) s.heap.size) 4 0 0 (MQ below (EQ G (wMod G a0 v0.1 v0.2.1 v0.2.2.1 v0.2.2.2.1 v0.2.2.2.2.1 v0.2.2.2.2.2.1 v0.2.2.2.2.2.2.1 v0.2.2.2.2.2.2.2.1 v0.2.2.2.2.2.2.2.2.1 v0.2.2.2.2.2.2.2.2.2.1 v0.2.2.2.2.2.2.2.2.2.2.1 v0.2.2.2.2.2.2.2.2.2.2.2.1 v0.2.2.2.2.2.2.2.2.2.2.2.2.1 v0.2.2.2.2.2.2.2.2.2.2.2.2.2.1 v0.2.2.2.2.2.2.2.2.2.2.2.2.2.2.1 v0.2.2.2.2.2.2.2.2.2.2.2.2.2.2.2.1 v0.2.2.2.2.2.2.2.2.2.2.2.2.2.2.2.2) s.heap.size (PI (fun _ : Unit => wMod G a0 v0.1 v0.2.1 v0.2.2.1 v0.2.2.2.1 v0.2.2.2.2.1 v0.2.2.2.2.2.1 v0.2.2.2.2.2.2.1 v0.2.2.2.2.2.2.2.1 v0.2.2.2.2.2.2.2.2.1 v0.2.2.2.2.2.2.2.2.2.1 v0.2.2.2.2.2.2.2.2.2.2.1 v0.2.2.2.2.2.2.2.2.2.2.2.1 v0.2.2.2.2.2.2.2.2.2.2.2.2.1 v0.2.2.2.2.2.2.2.2.2.2.2.2.2.1 v0.2.2.2.2.2.2.2.2.2.2.2.2.2.2.1 v0.2.2.2.2.2.2.2.2.2.2.2.2.2.2.2.1 v0.2.2.2.2.2.2.2.2.2.2.2.2.2.2.2.2) (fun r _ => Q r))) args s 0 0 (va_A (wMod G a0 v0.1 v0.2.1 v0.2.2.1 v0.2.2.2.1 v0.2.2.2.2.1 v0.2.2.2.2.2.1 v0.2.2.2.2.2.2.1 v0.2.2.2.2.2.2.2.1 v0.2.2.2.2.2.2.2.2.1 v0.2.2.2.2.2.2.2.2.2.1 v0.2.2.2.2.2.2.2.2.2.2.1 v0.2.2.2.2.2.2.2.2.2.2.2.1 v0.2.2.2.2.2.2.2.2.2.2.2.2.1 v0.2.2.2.2.2.2.2.2.2.2.2.2.2.1 v0.2.2.2.2.2.2.2.2.2.2.2.2.2.2.1 v0.2.2.2.2.2.2.2.2.2.2.2.2.2.2.2.1 v0.2.2.2.2.2.2.2.2.2.2.2.2.2.2.2.2) s.heap.size)) (wMod G a0 v0.1 v0.2.1 v0.2.2.1 v0.2.2.2.1 v0.2.2.2.2.1 v0.2.2.2.2.2.1 v0.2.2.2.2.2.2.1 v0.2.2.2.2.2.2.2.1 v0.2.2.2.2.2.2.2.2.1 v0.2.2.2.2.2.2.2.2.2.1 v0.2.2.2.2.2.2.2.2.2.2.1 v0.2.2.2.2.2.2.2.2.2.2.2.1 v0.2.2.2.2.2.2.2.2.2.2.2.2.1 v0.2.2.2.2.2.2.2.2.2.2.2.2.2.1 v0.2.2.2.2.2.2.2.2.2.2.2.2.2.2.1 v0.2.2.2.2.2.2.2.2.2.2.2.2.2.2.2.1 v0.2.2.2.2.2.2.2.2.2.2.2.2.2.2.2.2) 15 [(0, .ref a0.1), (2, .int x2), (3, .int x3)] [] := by
    intro kk
    induction kk with
    | zero => intro x2 x3 hw; exact hw.elim
    | succ n ih =>
      intro x2 x3 hw
      refine v_iload_n (pc2 := 16) S 2 dX9_together_15 rfl rfl rfl ?_
      refine v_sipush (v := 1024) (pc2 := 19) S dX9_together_16 (by decide) rfl ?_
      refine v_icmp_ge (pc2 := 22) (tgt := 53) S dX9_together_19 (by decide) rfl (fun c4 => ?_) (fun c4 => ?_)
      · have hw := hw.1 c4
        refine v_iload_n (pc2 := 54) S 1 dX9_together_53 rfl rfl rfl ?_
        exact v_iret S ⟨x2, (), rfl, rfl, hw⟩ dX9_together_54
      · have hw := hw.2 c4
        refine v_iload_n (pc2 := 23) S 2 dX9_together_22 rfl rfl rfl ?_
        refine v_callS (pc2 := 26) (As := [.int x3]) (rest := []) S (c_X9_size l G x3 _ hw) mf_X9_size u_1050 u_1051 rfl rfl ⟨rfl, rfl⟩ ⟨Nat.le_of_ble_eq_true rfl, Nat.le_of_ble_eq_true rfl⟩ ⟨Nat.le_of_ble_eq_true rfl, Nat.le_of_ble_eq_true rfl⟩ (Nat.le_of_ble_eq_true rfl) dX9_together_23 (frM [] [] _) rfl (pi (fun r5 u6 hw => ?_))
        refine v_to (wMod G a0 v0.1 v0.2.1 v0.2.2.1 v0.2.2.2.1 v0.2.2.2.2.1 v0.2.2.2.2.2.1 v0.2.2.2.2.2.2.1 v0.2.2.2.2.2.2.2.1 v0.2.2.2.2.2.2.2.2.1 v0.2.2.2.2.2.2.2.2.2.1 v0.2.2.2.2.2.2.2.2.2.2.1 v0.2.2.2.2.2.2.2.2.2.2.2.1 v0.2.2.2.2.2.2.2.2.2.2.2.2.1 v0.2.2.2.2.2.2.2.2.2.2.2.2.2.1 v0.2.2.2.2.2.2.2.2.2.2.2.2.2.2.1 v0.2.2.2.2.2.2.2.2.2.2.2.2.2.2.2.1 v0.2.2.2.2.2.2.2.2.2.2.2.2.2.2.2.2) 26 [(0, .ref a0.1), (2, .int x2), (3, .int x3)] _ [.int r5] rfl rfl rfl rfl ?_
        refine v_iload_n (pc2 := 27) S 1 dX9_together_26 rfl rfl rfl ?_
        refine v_icmp_le (pc2 := 30) (tgt := 45) S dX9_together_27 (by decide) rfl (fun c7 => ?_) (fun c7 => ?_)
        · have hw := hw.1 c7
          refine v_iload_n (pc2 := 46) S 1 dX9_together_45 rfl rfl rfl ?_
          refine v_istore_n (lv2 := [(0, .ref a0.1), (2, .int x2), (3, .int x3)]) (pc2 := 47) S dX9_together_46 rfl (by decide) [1, 0, 2] rfl rfl ?_
          obtain ⟨z8, ez8⟩ : ∃ y : Int32, y = x3 + (1 : Int32) := ⟨_, rfl⟩
          have hw := hw z8 ez8
          refine v_iinc (v := z8) (lv2 := [(0, .ref a0.1), (2, .int x2), (3, .int z8)]) (pc2 := 50) S 2 dX9_together_47 rfl (by rw [ez8]; rfl) (by decide) [1, 2, 0] rfl rfl ?_
          refine v_goto (tgt := 15) S dX9_together_50 (by decide) ?_
          exact ih x2 z8 hw
        · have hw := hw.2 c7
          refine v_aload_n (pc2 := 31) S 0 dX9_together_30 rfl rfl rfl ?_
          refine v_iload_n (pc2 := 32) S 2 dX9_together_31 rfl rfl rfl ?_
          refine v_callV (pc2 := 35) (As := [.int x3]) (rest := []) S (c_X9_canBe l G a0 v0 x3 _ hw) mf_X9_canBe u_1069 u_1071 u_54 0 9 rfl rfl rfl rfl ⟨rfl, rfl⟩ ⟨Nat.le_of_ble_eq_true rfl, Nat.le_of_ble_eq_true rfl⟩ ⟨Nat.le_of_ble_eq_true rfl, Nat.le_of_ble_eq_true rfl⟩ (Nat.le_of_ble_eq_true rfl) dX9_together_32 (frW _) rfl (pb (fun r9 u10 br9 hw => ?_))
          refine v_to (wMod G a0 v0.1 v0.2.1 v0.2.2.1 v0.2.2.2.1 v0.2.2.2.2.1 v0.2.2.2.2.2.1 v0.2.2.2.2.2.2.1 v0.2.2.2.2.2.2.2.1 v0.2.2.2.2.2.2.2.2.1 v0.2.2.2.2.2.2.2.2.2.1 v0.2.2.2.2.2.2.2.2.2.2.1 v0.2.2.2.2.2.2.2.2.2.2.2.1 v0.2.2.2.2.2.2.2.2.2.2.2.2.1 v0.2.2.2.2.2.2.2.2.2.2.2.2.2.1 v0.2.2.2.2.2.2.2.2.2.2.2.2.2.2.1 v0.2.2.2.2.2.2.2.2.2.2.2.2.2.2.2.1 v0.2.2.2.2.2.2.2.2.2.2.2.2.2.2.2.2) 35 [(0, .ref a0.1), (2, .int x2), (3, .int x3)] _ [.int r9] rfl rfl rfl rfl ?_
          refine v_if_eq (pc2 := 38) (tgt := 45) S dX9_together_35 (by decide) rfl (fun c11 => ?_) (fun c11 => ?_)
          · have hw := hw.1 c11
            refine v_iload_n (pc2 := 46) S 1 dX9_together_45 rfl rfl rfl ?_
            refine v_istore_n (lv2 := [(0, .ref a0.1), (2, .int x2), (3, .int x3)]) (pc2 := 47) S dX9_together_46 rfl (by decide) [1, 0, 2] rfl rfl ?_
            obtain ⟨z12, ez12⟩ : ∃ y : Int32, y = x3 + (1 : Int32) := ⟨_, rfl⟩
            have hw := hw z12 ez12
            refine v_iinc (v := z12) (lv2 := [(0, .ref a0.1), (2, .int x2), (3, .int z12)]) (pc2 := 50) S 2 dX9_together_47 rfl (by rw [ez12]; rfl) (by decide) [1, 2, 0] rfl rfl ?_
            refine v_goto (tgt := 15) S dX9_together_50 (by decide) ?_
            exact ih x2 z12 hw
          · have hw := hw.2 c11
            refine v_iload_n (pc2 := 39) S 2 dX9_together_38 rfl rfl rfl ?_
            refine v_callS (pc2 := 42) (As := [.int x3]) (rest := []) S (c_X9_size l G x3 _ hw) mf_X9_size u_1050 u_1051 rfl rfl ⟨rfl, rfl⟩ ⟨Nat.le_of_ble_eq_true rfl, Nat.le_of_ble_eq_true rfl⟩ ⟨Nat.le_of_ble_eq_true rfl, Nat.le_of_ble_eq_true rfl⟩ (Nat.le_of_ble_eq_true rfl) dX9_together_39 (frM [] [] _) rfl (pi (fun r13 u14 hw => ?_))
            refine v_to (wMod G a0 v0.1 v0.2.1 v0.2.2.1 v0.2.2.2.1 v0.2.2.2.2.1 v0.2.2.2.2.2.1 v0.2.2.2.2.2.2.1 v0.2.2.2.2.2.2.2.1 v0.2.2.2.2.2.2.2.2.1 v0.2.2.2.2.2.2.2.2.2.1 v0.2.2.2.2.2.2.2.2.2.2.1 v0.2.2.2.2.2.2.2.2.2.2.2.1 v0.2.2.2.2.2.2.2.2.2.2.2.2.1 v0.2.2.2.2.2.2.2.2.2.2.2.2.2.1 v0.2.2.2.2.2.2.2.2.2.2.2.2.2.2.1 v0.2.2.2.2.2.2.2.2.2.2.2.2.2.2.2.1 v0.2.2.2.2.2.2.2.2.2.2.2.2.2.2.2.2) 42 [(0, .ref a0.1), (2, .int x2), (3, .int x3)] _ [.int r13] rfl rfl rfl rfl ?_
            refine v_goto (tgt := 46) S dX9_together_42 (by decide) ?_
            refine v_istore_n (lv2 := [(0, .ref a0.1), (2, .int r13), (3, .int x3)]) (pc2 := 47) S dX9_together_46 rfl (by decide) [1, 0, 2] rfl rfl ?_
            obtain ⟨z15, ez15⟩ : ∃ y : Int32, y = x3 + (1 : Int32) := ⟨_, rfl⟩
            have hw := hw z15 ez15
            refine v_iinc (v := z15) (lv2 := [(0, .ref a0.1), (2, .int r13), (3, .int z15)]) (pc2 := 50) S 2 dX9_together_47 rfl (by rw [ez15]; rfl) (by decide) [1, 2, 0] rfl rfl ?_
            refine v_goto (tgt := 15) S dX9_together_50 (by decide) ?_
            exact ih r13 z15 hw
  refine v_iload_n (pc2 := 1) S 1 dX9_together_0 rfl rfl rfl ?_
  refine v_iconst (v := 0) (pc2 := 2) S dX9_together_1 (by decide) rfl ?_
  refine v_iconst (v := 1) (pc2 := 3) S dX9_together_2 (by decide) rfl ?_
  refine v_callS (pc2 := 6) (As := [.int i0, .int (0 : Int32), .int (1 : Int32)]) (rest := []) S (c_X9_in l G i0 (0 : Int32) (1 : Int32) _ hw) mf_X9_in u_861 u_862 rfl rfl ⟨rfl, rfl⟩ ⟨Nat.le_of_ble_eq_true rfl, Nat.le_of_ble_eq_true rfl⟩ ⟨Nat.le_of_ble_eq_true rfl, Nat.le_of_ble_eq_true rfl⟩ (Nat.le_of_ble_eq_true rfl) dX9_together_3 (frM [] [] _) rfl (pb (fun r1 u2 br1 hw => ?_))
  refine v_to (wMod G a0 v0.1 v0.2.1 v0.2.2.1 v0.2.2.2.1 v0.2.2.2.2.1 v0.2.2.2.2.2.1 v0.2.2.2.2.2.2.1 v0.2.2.2.2.2.2.2.1 v0.2.2.2.2.2.2.2.2.1 v0.2.2.2.2.2.2.2.2.2.1 v0.2.2.2.2.2.2.2.2.2.2.1 v0.2.2.2.2.2.2.2.2.2.2.2.1 v0.2.2.2.2.2.2.2.2.2.2.2.2.1 v0.2.2.2.2.2.2.2.2.2.2.2.2.2.1 v0.2.2.2.2.2.2.2.2.2.2.2.2.2.2.1 v0.2.2.2.2.2.2.2.2.2.2.2.2.2.2.2.1 v0.2.2.2.2.2.2.2.2.2.2.2.2.2.2.2.2) 6 [(0, .ref a0.1), (1, .int i0)] _ [.int r1] rfl rfl rfl rfl ?_
  refine v_if_ne (pc2 := 9) (tgt := 11) S dX9_together_6 (by decide) rfl (fun c3 => ?_) (fun c3 => ?_)
  · have hw := hw.1 c3
    refine v_iconst (v := 0) (pc2 := 12) S dX9_together_11 (by decide) rfl ?_
    refine v_istore_n (lv2 := [(0, .ref a0.1), (1, .int i0), (2, .int (0 : Int32))]) (pc2 := 13) S dX9_together_12 rfl (by decide) [1, 2, 0] rfl rfl ?_
    refine v_iconst (v := 0) (pc2 := 14) S dX9_together_13 (by decide) rfl ?_
    refine v_istore_n (lv2 := [(0, .ref a0.1), (1, .int i0), (2, .int (0 : Int32)), (3, .int (0 : Int32))]) (pc2 := 15) S dX9_together_14 rfl (by decide) [1, 2, 3, 0] rfl rfl ?_
    refine v_lv [(0, .ref a0.1), (2, .int (0 : Int32)), (3, .int (0 : Int32))] [0, 2, 3] rfl ?_
    obtain ⟨kk, hw⟩ := hw
    exact L15 kk (0 : Int32) (0 : Int32) hw
  · have hw := hw.2 c3
    refine v_iconst (v := -1) (pc2 := 10) S dX9_together_9 (by decide) rfl ?_
    exact v_iret S ⟨(-1 : Int32), (), rfl, rfl, hw⟩ dX9_together_10
set_option maxHeartbeats 4000000 in
set_option maxRecDepth 100000 in
theorem c_X9_laySet (l : Launch) (G : GG) (a0 : ModA) (v0 : ModV) (i0 : Int32) (Q : ModV → Prop) (hw : wp_X9_laySet v0 i0 Q) : Con l G yX9_laySet cX9_laySet 3 none { frames := 1, cells := 0, slots := 0, locals := 23 } [.ref a0.1, .int i0] (wMod G a0 v0.1 v0.2.1 v0.2.2.1 v0.2.2.2.1 v0.2.2.2.2.1 v0.2.2.2.2.2.1 v0.2.2.2.2.2.2.1 v0.2.2.2.2.2.2.2.1 v0.2.2.2.2.2.2.2.2.1 v0.2.2.2.2.2.2.2.2.2.1 v0.2.2.2.2.2.2.2.2.2.2.1 v0.2.2.2.2.2.2.2.2.2.2.2.1 v0.2.2.2.2.2.2.2.2.2.2.2.2.1 v0.2.2.2.2.2.2.2.2.2.2.2.2.2.1 v0.2.2.2.2.2.2.2.2.2.2.2.2.2.2.1 v0.2.2.2.2.2.2.2.2.2.2.2.2.2.2.2.1 v0.2.2.2.2.2.2.2.2.2.2.2.2.2.2.2.2) (PV (fun u : ModV => wMod G a0 u.1 u.2.1 u.2.2.1 u.2.2.2.1 u.2.2.2.2.1 u.2.2.2.2.2.1 u.2.2.2.2.2.2.1 u.2.2.2.2.2.2.2.1 u.2.2.2.2.2.2.2.2.1 u.2.2.2.2.2.2.2.2.2.1 u.2.2.2.2.2.2.2.2.2.2.1 u.2.2.2.2.2.2.2.2.2.2.2.1 u.2.2.2.2.2.2.2.2.2.2.2.2.1 u.2.2.2.2.2.2.2.2.2.2.2.2.2.1 u.2.2.2.2.2.2.2.2.2.2.2.2.2.2.1 u.2.2.2.2.2.2.2.2.2.2.2.2.2.2.2.1 u.2.2.2.2.2.2.2.2.2.2.2.2.2.2.2.2) Q) 0 0 := by
  refine con_of RX9 rfl (by decide) [(0, .ref a0.1), (1, .int i0)] rfl (Nat.le_of_ble_eq_true rfl) ?_
  intro p e s m args below meth c S hname
  have L2 : ∀ (x1 : Int32) (kk : Nat) (x2 : Int32) (w0 : ModV), wp_X9_laySet_L2 x1 Q kk x2 w0 → V p l e { frames := 1, cells := 0, slots := 0, locals := 23 } s m args below meth c G (va_A (wMod G a0 v0.1 v0.2.1 v0.2.2.1 v0.2.2.2.1 v0.2.2.2.2.1 v0.2.2.2.2.2.1 v0.2.2.2.2.2.2.1 v0.2.2.2.2.2.2.2.1 v0.2.2.2.2.2.2.2.2.1 v0.2.2.2.2.2.2.2.2.2.1 v0.2.2.2.2.2.2.2.2.2.2.1 v0.2.2.2.2.2.2.2.2.2.2.2.1 v0.2.2.2.2.2.2.2.2.2.2.2.2.1 v0.2.2.2.2.2.2.2.2.2.2.2.2.2.1 v0.2.2.2.2.2.2.2.2.2.2.2.2.2.2.1 v0.2.2.2.2.2.2.2.2.2.2.2.2.2.2.2.1 v0.2.2.2.2.2.2.2.2.2.2.2.2.2.2.2.2) s.heap.size) 3 0 0 (MQ below (EQ G (wMod G a0 v0.1 v0.2.1 v0.2.2.1 v0.2.2.2.1 v0.2.2.2.2.1 v0.2.2.2.2.2.1 v0.2.2.2.2.2.2.1 v0.2.2.2.2.2.2.2.1 v0.2.2.2.2.2.2.2.2.1 v0.2.2.2.2.2.2.2.2.2.1 v0.2.2.2.2.2.2.2.2.2.2.1 v0.2.2.2.2.2.2.2.2.2.2.2.1 v0.2.2.2.2.2.2.2.2.2.2.2.2.1 v0.2.2.2.2.2.2.2.2.2.2.2.2.2.1 v0.2.2.2.2.2.2.2.2.2.2.2.2.2.2.1 v0.2.2.2.2.2.2.2.2.2.2.2.2.2.2.2.1 v0.2.2.2.2.2.2.2.2.2.2.2.2.2.2.2.2) s.heap.size (PV (fun u : ModV => wMod G a0 u.1 u.2.1 u.2.2.1 u.2.2.2.1 u.2.2.2.2.1 u.2.2.2.2.2.1 u.2.2.2.2.2.2.1 u.2.2.2.2.2.2.2.1 u.2.2.2.2.2.2.2.2.1 u.2.2.2.2.2.2.2.2.2.1 u.2.2.2.2.2.2.2.2.2.2.1 u.2.2.2.2.2.2.2.2.2.2.2.1 u.2.2.2.2.2.2.2.2.2.2.2.2.1 u.2.2.2.2.2.2.2.2.2.2.2.2.2.1 u.2.2.2.2.2.2.2.2.2.2.2.2.2.2.1 u.2.2.2.2.2.2.2.2.2.2.2.2.2.2.2.1 u.2.2.2.2.2.2.2.2.2.2.2.2.2.2.2.2) Q)) args s 0 0 (va_A (wMod G a0 v0.1 v0.2.1 v0.2.2.1 v0.2.2.2.1 v0.2.2.2.2.1 v0.2.2.2.2.2.1 v0.2.2.2.2.2.2.1 v0.2.2.2.2.2.2.2.1 v0.2.2.2.2.2.2.2.2.1 v0.2.2.2.2.2.2.2.2.2.1 v0.2.2.2.2.2.2.2.2.2.2.1 v0.2.2.2.2.2.2.2.2.2.2.2.1 v0.2.2.2.2.2.2.2.2.2.2.2.2.1 v0.2.2.2.2.2.2.2.2.2.2.2.2.2.1 v0.2.2.2.2.2.2.2.2.2.2.2.2.2.2.1 v0.2.2.2.2.2.2.2.2.2.2.2.2.2.2.2.1 v0.2.2.2.2.2.2.2.2.2.2.2.2.2.2.2.2) s.heap.size)) (wMod G a0 w0.1 w0.2.1 w0.2.2.1 w0.2.2.2.1 w0.2.2.2.2.1 w0.2.2.2.2.2.1 w0.2.2.2.2.2.2.1 w0.2.2.2.2.2.2.2.1 w0.2.2.2.2.2.2.2.2.1 w0.2.2.2.2.2.2.2.2.2.1 w0.2.2.2.2.2.2.2.2.2.2.1 w0.2.2.2.2.2.2.2.2.2.2.2.1 w0.2.2.2.2.2.2.2.2.2.2.2.2.1 w0.2.2.2.2.2.2.2.2.2.2.2.2.2.1 w0.2.2.2.2.2.2.2.2.2.2.2.2.2.2.1 w0.2.2.2.2.2.2.2.2.2.2.2.2.2.2.2.1 w0.2.2.2.2.2.2.2.2.2.2.2.2.2.2.2.2) 2 [(0, .ref a0.1), (1, .int x1), (2, .int x2)] [] := by
    intro x1 kk
    induction kk with
    | zero => intro x2 w0 hw; exact hw.elim
    | succ n ih =>
      intro x2 w0 hw
      refine v_iload_n (pc2 := 3) S 2 dX9_laySet_2 rfl rfl rfl ?_
      refine v_bipush (v := 10) (pc2 := 5) S dX9_laySet_3 (by decide) rfl ?_
      refine v_icmp_ge (pc2 := 8) (tgt := 25) S dX9_laySet_5 (by decide) rfl (fun c1 => ?_) (fun c1 => ?_)
      · have hw := hw.1 c1
        exact v_vret S ⟨w0, rfl, rfl, hw⟩ dX9_laySet_25
      · have hw := hw.2 c1
        refine v_aload_n (pc2 := 9) S 0 dX9_laySet_8 rfl rfl rfl ?_
        refine v_iload_n (pc2 := 10) S 2 dX9_laySet_9 rfl rfl rfl ?_
        refine v_iconst (v := 0) (pc2 := 11) S dX9_laySet_10 (by decide) rfl ?_
        refine v_iload_n (pc2 := 12) S 1 dX9_laySet_11 rfl rfl rfl ?_
        refine v_iload_n (pc2 := 13) S 2 dX9_laySet_12 rfl rfl rfl ?_
        refine v_ishr (pc2 := 14) S dX9_laySet_13 rfl ?_
        refine v_iconst (v := 1) (pc2 := 15) S dX9_laySet_14 (by decide) rfl ?_
        refine v_iand (pc2 := 16) S dX9_laySet_15 rfl ?_
        refine v_callV (pc2 := 19) (As := [.int x2, .int (0 : Int32), .int ((x1 >>> (x2 &&& 31)) &&& (1 : Int32))]) (rest := []) S (c_X9_lay l G a0 w0 x2 (0 : Int32) ((x1 >>> (x2 &&& 31)) &&& (1 : Int32)) _ hw) mf_X9_lay u_771 u_773 u_19 0 9 rfl rfl rfl rfl ⟨rfl, rfl⟩ ⟨Nat.le_of_ble_eq_true rfl, Nat.le_of_ble_eq_true rfl⟩ ⟨Nat.le_of_ble_eq_true rfl, Nat.le_of_ble_eq_true rfl⟩ (Nat.le_of_ble_eq_true rfl) dX9_laySet_16 (frW _) rfl (pv (fun u3 hw => ?_))
        refine v_to (wMod G a0 u3.1 u3.2.1 u3.2.2.1 u3.2.2.2.1 u3.2.2.2.2.1 u3.2.2.2.2.2.1 u3.2.2.2.2.2.2.1 u3.2.2.2.2.2.2.2.1 u3.2.2.2.2.2.2.2.2.1 u3.2.2.2.2.2.2.2.2.2.1 u3.2.2.2.2.2.2.2.2.2.2.1 u3.2.2.2.2.2.2.2.2.2.2.2.1 u3.2.2.2.2.2.2.2.2.2.2.2.2.1 u3.2.2.2.2.2.2.2.2.2.2.2.2.2.1 u3.2.2.2.2.2.2.2.2.2.2.2.2.2.2.1 u3.2.2.2.2.2.2.2.2.2.2.2.2.2.2.2.1 u3.2.2.2.2.2.2.2.2.2.2.2.2.2.2.2.2) 19 [(0, .ref a0.1), (1, .int x1), (2, .int x2)] _ [] rfl rfl rfl rfl ?_
        obtain ⟨z4, ez4⟩ : ∃ y : Int32, y = x2 + (1 : Int32) := ⟨_, rfl⟩
        have hw := hw z4 ez4
        refine v_iinc (v := z4) (lv2 := [(0, .ref a0.1), (1, .int x1), (2, .int z4)]) (pc2 := 22) S 2 dX9_laySet_19 rfl (by rw [ez4]; rfl) (by decide) [1, 2, 0] rfl rfl ?_
        refine v_goto (tgt := 2) S dX9_laySet_22 (by decide) ?_
        exact ih z4 u3 hw
  refine v_iconst (v := 0) (pc2 := 1) S dX9_laySet_0 (by decide) rfl ?_
  refine v_istore_n (lv2 := [(0, .ref a0.1), (1, .int i0), (2, .int (0 : Int32))]) (pc2 := 2) S dX9_laySet_1 rfl (by decide) [1, 2, 0] rfl rfl ?_
  obtain ⟨kk, hw⟩ := hw
  exact L2 i0 kk (0 : Int32) v0 hw
set_option maxHeartbeats 4000000 in
set_option maxRecDepth 100000 in
theorem c_X9_reach (l : Launch) (G : GG) (a0 : ModA) (v0 : ModV) (i0 : Int32) (i1 : Int32) (Q : ModV → Prop) (hw : wp_X9_reach v0 i0 i1 Q) : Con l G yX9_reach cX9_reach 3 none { frames := 0, cells := 0, slots := 0, locals := 0 } [.ref a0.1, .int i0, .int i1] (wMod G a0 v0.1 v0.2.1 v0.2.2.1 v0.2.2.2.1 v0.2.2.2.2.1 v0.2.2.2.2.2.1 v0.2.2.2.2.2.2.1 v0.2.2.2.2.2.2.2.1 v0.2.2.2.2.2.2.2.2.1 v0.2.2.2.2.2.2.2.2.2.1 v0.2.2.2.2.2.2.2.2.2.2.1 v0.2.2.2.2.2.2.2.2.2.2.2.1 v0.2.2.2.2.2.2.2.2.2.2.2.2.1 v0.2.2.2.2.2.2.2.2.2.2.2.2.2.1 v0.2.2.2.2.2.2.2.2.2.2.2.2.2.2.1 v0.2.2.2.2.2.2.2.2.2.2.2.2.2.2.2.1 v0.2.2.2.2.2.2.2.2.2.2.2.2.2.2.2.2) (PV (fun u : ModV => wMod G a0 u.1 u.2.1 u.2.2.1 u.2.2.2.1 u.2.2.2.2.1 u.2.2.2.2.2.1 u.2.2.2.2.2.2.1 u.2.2.2.2.2.2.2.1 u.2.2.2.2.2.2.2.2.1 u.2.2.2.2.2.2.2.2.2.1 u.2.2.2.2.2.2.2.2.2.2.1 u.2.2.2.2.2.2.2.2.2.2.2.1 u.2.2.2.2.2.2.2.2.2.2.2.2.1 u.2.2.2.2.2.2.2.2.2.2.2.2.2.1 u.2.2.2.2.2.2.2.2.2.2.2.2.2.2.1 u.2.2.2.2.2.2.2.2.2.2.2.2.2.2.2.1 u.2.2.2.2.2.2.2.2.2.2.2.2.2.2.2.2) Q) 0 0 := by
  refine con_of RX9 rfl (by decide) [(0, .ref a0.1), (1, .int i0), (2, .int i1)] rfl (Nat.le_of_ble_eq_true rfl) ?_
  intro p e s m args below meth c S hname
  refine v_aload_n (pc2 := 1) S 0 dX9_reach_0 rfl rfl rfl ?_
  refine v_get (v := .ref a0.2.2.2.2.2.2.2.1) (pc2 := 4) S gf_X9_38 0 rfl rfl dX9_reach_1 rfl ?_
  refine v_iload_n (pc2 := 5) S 1 dX9_reach_4 rfl rfl rfl ?_
  obtain ⟨h1, hw⟩ := hw
  refine v_iald (pc2 := 6) S 7 rfl h1 dX9_reach_5 rfl ?_
  refine v_bipush (v := -4) (pc2 := 8) S dX9_reach_6 (by decide) rfl ?_
  refine v_icmp_ne (pc2 := 11) (tgt := 38) S dX9_reach_8 (by decide) rfl (fun c2 => ?_) (fun c2 => ?_)
  · have hw := hw.1 c2
    exact v_vret S ⟨v0, rfl, rfl, hw⟩ dX9_reach_38
  · have hw := hw.2 c2
    refine v_aload_n (pc2 := 12) S 0 dX9_reach_11 rfl rfl rfl ?_
    refine v_get (v := .ref a0.2.2.2.2.2.2.2.1) (pc2 := 15) S gf_X9_38 0 rfl rfl dX9_reach_12 rfl ?_
    refine v_iload_n (pc2 := 16) S 1 dX9_reach_15 rfl rfl rfl ?_
    refine v_iload_n (pc2 := 17) S 2 dX9_reach_16 rfl rfl rfl ?_
    obtain ⟨h3, hw⟩ := hw
    obtain ⟨g4, eg4⟩ : ∃ y : Nat → Int32, y = upd v0.2.2.2.2.2.2.2.2.2.2.2.2.2.2.1 i0.toNatClampNeg i1 := ⟨_, rfl⟩
    have hw := hw g4 eg4
    refine v_iast (ws2 := wMod G a0 v0.1 v0.2.1 v0.2.2.1 v0.2.2.2.1 v0.2.2.2.2.1 v0.2.2.2.2.2.1 v0.2.2.2.2.2.2.1 v0.2.2.2.2.2.2.2.1 v0.2.2.2.2.2.2.2.2.1 v0.2.2.2.2.2.2.2.2.2.1 v0.2.2.2.2.2.2.2.2.2.2.1 v0.2.2.2.2.2.2.2.2.2.2.2.1 v0.2.2.2.2.2.2.2.2.2.2.2.2.1 v0.2.2.2.2.2.2.2.2.2.2.2.2.2.1 g4 v0.2.2.2.2.2.2.2.2.2.2.2.2.2.2.2.1 v0.2.2.2.2.2.2.2.2.2.2.2.2.2.2.2.2) (pc2 := 18) S 7 rfl h3 (by rw [eg4] <;> rfl) dX9_reach_17 rfl ?_
    refine v_aload_n (pc2 := 19) S 0 dX9_reach_18 rfl rfl rfl ?_
    refine v_get (v := .ref a0.2.2.2.2.2.2.2.2) (pc2 := 22) S gf_X9_41 0 rfl rfl dX9_reach_19 rfl ?_
    refine v_aload_n (pc2 := 23) S 0 dX9_reach_22 rfl rfl rfl ?_
    refine v_get (v := .int v0.2.2.2.2.2.2.2.2.2.2.2.2.2.2.2.2) (pc2 := 26) S gf_X9_197 0 rfl rfl dX9_reach_23 rfl ?_
    refine v_iload_n (pc2 := 27) S 1 dX9_reach_26 rfl rfl rfl ?_
    obtain ⟨h5, hw⟩ := hw
    obtain ⟨g6, eg6⟩ : ∃ y : Nat → Int32, y = upd v0.2.2.2.2.2.2.2.2.2.2.2.2.2.2.2.1 v0.2.2.2.2.2.2.2.2.2.2.2.2.2.2.2.2.toNatClampNeg i0 := ⟨_, rfl⟩
    have hw := hw g6 eg6
    refine v_iast (ws2 := wMod G a0 v0.1 v0.2.1 v0.2.2.1 v0.2.2.2.1 v0.2.2.2.2.1 v0.2.2.2.2.2.1 v0.2.2.2.2.2.2.1 v0.2.2.2.2.2.2.2.1 v0.2.2.2.2.2.2.2.2.1 v0.2.2.2.2.2.2.2.2.2.1 v0.2.2.2.2.2.2.2.2.2.2.1 v0.2.2.2.2.2.2.2.2.2.2.2.1 v0.2.2.2.2.2.2.2.2.2.2.2.2.1 v0.2.2.2.2.2.2.2.2.2.2.2.2.2.1 g4 g6 v0.2.2.2.2.2.2.2.2.2.2.2.2.2.2.2.2) (pc2 := 28) S 8 rfl h5 (by rw [eg6] <;> rfl) dX9_reach_27 rfl ?_
    refine v_aload_n (pc2 := 29) S 0 dX9_reach_28 rfl rfl rfl ?_
    refine v_dup (pc2 := 30) S dX9_reach_29 rfl rfl ?_
    refine v_get (v := .int v0.2.2.2.2.2.2.2.2.2.2.2.2.2.2.2.2) (pc2 := 33) S gf_X9_197 0 rfl rfl dX9_reach_30 rfl ?_
    refine v_iconst (v := 1) (pc2 := 34) S dX9_reach_33 (by decide) rfl ?_
    refine v_iadd (pc2 := 35) S dX9_reach_34 rfl ?_
    refine v_nm (fun z7 ez7 => ?_)
    have hw := hw z7 ez7
    refine v_put (ws2 := wMod G a0 v0.1 v0.2.1 v0.2.2.1 v0.2.2.2.1 v0.2.2.2.2.1 v0.2.2.2.2.2.1 v0.2.2.2.2.2.2.1 v0.2.2.2.2.2.2.2.1 v0.2.2.2.2.2.2.2.2.1 v0.2.2.2.2.2.2.2.2.2.1 v0.2.2.2.2.2.2.2.2.2.2.1 v0.2.2.2.2.2.2.2.2.2.2.2.1 v0.2.2.2.2.2.2.2.2.2.2.2.2.1 v0.2.2.2.2.2.2.2.2.2.2.2.2.2.1 g4 g6 z7) (pc2 := 38) S gf_X9_197 pf_X9_16 0 rfl rfl rfl (Nat.le_of_ble_eq_true rfl) rfl dX9_reach_35 rfl ?_
    exact v_vret S ⟨(v0.1, v0.2.1, v0.2.2.1, v0.2.2.2.1, v0.2.2.2.2.1, v0.2.2.2.2.2.1, v0.2.2.2.2.2.2.1, v0.2.2.2.2.2.2.2.1, v0.2.2.2.2.2.2.2.2.1, v0.2.2.2.2.2.2.2.2.2.1, v0.2.2.2.2.2.2.2.2.2.2.1, v0.2.2.2.2.2.2.2.2.2.2.2.1, v0.2.2.2.2.2.2.2.2.2.2.2.2.1, v0.2.2.2.2.2.2.2.2.2.2.2.2.2.1, g4, g6, z7), rfl, rfl, hw⟩ dX9_reach_38
set_option maxHeartbeats 4000000 in
set_option maxRecDepth 100000 in
theorem c_X9_goOn (l : Launch) (G : GG) (a0 : ModA) (v0 : ModV) (i0 : Int32) (i1 : Int32) (Q : ModV → Prop) (hw : wp_X9_goOn v0 i0 i1 Q) : Con l G yX9_goOn cX9_goOn 6 none { frames := 4, cells := 0, slots := 0, locals := 91 } [.ref a0.1, .int i0, .int i1] (wMod G a0 v0.1 v0.2.1 v0.2.2.1 v0.2.2.2.1 v0.2.2.2.2.1 v0.2.2.2.2.2.1 v0.2.2.2.2.2.2.1 v0.2.2.2.2.2.2.2.1 v0.2.2.2.2.2.2.2.2.1 v0.2.2.2.2.2.2.2.2.2.1 v0.2.2.2.2.2.2.2.2.2.2.1 v0.2.2.2.2.2.2.2.2.2.2.2.1 v0.2.2.2.2.2.2.2.2.2.2.2.2.1 v0.2.2.2.2.2.2.2.2.2.2.2.2.2.1 v0.2.2.2.2.2.2.2.2.2.2.2.2.2.2.1 v0.2.2.2.2.2.2.2.2.2.2.2.2.2.2.2.1 v0.2.2.2.2.2.2.2.2.2.2.2.2.2.2.2.2) (PV (fun u : ModV => wMod G a0 u.1 u.2.1 u.2.2.1 u.2.2.2.1 u.2.2.2.2.1 u.2.2.2.2.2.1 u.2.2.2.2.2.2.1 u.2.2.2.2.2.2.2.1 u.2.2.2.2.2.2.2.2.1 u.2.2.2.2.2.2.2.2.2.1 u.2.2.2.2.2.2.2.2.2.2.1 u.2.2.2.2.2.2.2.2.2.2.2.1 u.2.2.2.2.2.2.2.2.2.2.2.2.1 u.2.2.2.2.2.2.2.2.2.2.2.2.2.1 u.2.2.2.2.2.2.2.2.2.2.2.2.2.2.1 u.2.2.2.2.2.2.2.2.2.2.2.2.2.2.2.1 u.2.2.2.2.2.2.2.2.2.2.2.2.2.2.2.2) Q) 0 0 := by
  refine con_of RX9 rfl (by decide) [(0, .ref a0.1), (1, .int i0), (2, .int i1)] rfl (Nat.le_of_ble_eq_true rfl) ?_
  intro p e s m args below meth c S hname
  have B95 : ∀ (x1 : Int32) (x2 : Int32) (x3 : Int32) (x4 : Int32) (x5 : Int32) (w0 : ModV) (K16 : Int32 → ModV → Prop) (hK16 : ∀ (y0 : Int32) (y1 : ModV), K16 y0 y1 → V p l e { frames := 4, cells := 0, slots := 0, locals := 91 } s m args below meth c G (va_A (wMod G a0 v0.1 v0.2.1 v0.2.2.1 v0.2.2.2.1 v0.2.2.2.2.1 v0.2.2.2.2.2.1 v0.2.2.2.2.2.2.1 v0.2.2.2.2.2.2.2.1 v0.2.2.2.2.2.2.2.2.1 v0.2.2.2.2.2.2.2.2.2.1 v0.2.2.2.2.2.2.2.2.2.2.1 v0.2.2.2.2.2.2.2.2.2.2.2.1 v0.2.2.2.2.2.2.2.2.2.2.2.2.1 v0.2.2.2.2.2.2.2.2.2.2.2.2.2.1 v0.2.2.2.2.2.2.2.2.2.2.2.2.2.2.1 v0.2.2.2.2.2.2.2.2.2.2.2.2.2.2.2.1 v0.2.2.2.2.2.2.2.2.2.2.2.2.2.2.2.2) s.heap.size) 6 0 0 (MQ below (EQ G (wMod G a0 v0.1 v0.2.1 v0.2.2.1 v0.2.2.2.1 v0.2.2.2.2.1 v0.2.2.2.2.2.1 v0.2.2.2.2.2.2.1 v0.2.2.2.2.2.2.2.1 v0.2.2.2.2.2.2.2.2.1 v0.2.2.2.2.2.2.2.2.2.1 v0.2.2.2.2.2.2.2.2.2.2.1 v0.2.2.2.2.2.2.2.2.2.2.2.1 v0.2.2.2.2.2.2.2.2.2.2.2.2.1 v0.2.2.2.2.2.2.2.2.2.2.2.2.2.1 v0.2.2.2.2.2.2.2.2.2.2.2.2.2.2.1 v0.2.2.2.2.2.2.2.2.2.2.2.2.2.2.2.1 v0.2.2.2.2.2.2.2.2.2.2.2.2.2.2.2.2) s.heap.size (PV (fun u : ModV => wMod G a0 u.1 u.2.1 u.2.2.1 u.2.2.2.1 u.2.2.2.2.1 u.2.2.2.2.2.1 u.2.2.2.2.2.2.1 u.2.2.2.2.2.2.2.1 u.2.2.2.2.2.2.2.2.1 u.2.2.2.2.2.2.2.2.2.1 u.2.2.2.2.2.2.2.2.2.2.1 u.2.2.2.2.2.2.2.2.2.2.2.1 u.2.2.2.2.2.2.2.2.2.2.2.2.1 u.2.2.2.2.2.2.2.2.2.2.2.2.2.1 u.2.2.2.2.2.2.2.2.2.2.2.2.2.2.1 u.2.2.2.2.2.2.2.2.2.2.2.2.2.2.2.1 u.2.2.2.2.2.2.2.2.2.2.2.2.2.2.2.2) Q)) args s 0 0 (va_A (wMod G a0 v0.1 v0.2.1 v0.2.2.1 v0.2.2.2.1 v0.2.2.2.2.1 v0.2.2.2.2.2.1 v0.2.2.2.2.2.2.1 v0.2.2.2.2.2.2.2.1 v0.2.2.2.2.2.2.2.2.1 v0.2.2.2.2.2.2.2.2.2.1 v0.2.2.2.2.2.2.2.2.2.2.1 v0.2.2.2.2.2.2.2.2.2.2.2.1 v0.2.2.2.2.2.2.2.2.2.2.2.2.1 v0.2.2.2.2.2.2.2.2.2.2.2.2.2.1 v0.2.2.2.2.2.2.2.2.2.2.2.2.2.2.1 v0.2.2.2.2.2.2.2.2.2.2.2.2.2.2.2.1 v0.2.2.2.2.2.2.2.2.2.2.2.2.2.2.2.2) s.heap.size)) (wMod G a0 y1.1 y1.2.1 y1.2.2.1 y1.2.2.2.1 y1.2.2.2.2.1 y1.2.2.2.2.2.1 y1.2.2.2.2.2.2.1 y1.2.2.2.2.2.2.2.1 y1.2.2.2.2.2.2.2.2.1 y1.2.2.2.2.2.2.2.2.2.1 y1.2.2.2.2.2.2.2.2.2.2.1 y1.2.2.2.2.2.2.2.2.2.2.2.1 y1.2.2.2.2.2.2.2.2.2.2.2.2.1 y1.2.2.2.2.2.2.2.2.2.2.2.2.2.1 y1.2.2.2.2.2.2.2.2.2.2.2.2.2.2.1 y1.2.2.2.2.2.2.2.2.2.2.2.2.2.2.2.1 y1.2.2.2.2.2.2.2.2.2.2.2.2.2.2.2.2) 16 [(0, .ref a0.1), (1, .int x1), (2, .int x2), (3, .int x3), (4, .int x4), (5, .int y0)] []), wp_X9_goOn_B95 x1 x2 x3 x4 x5 w0 Q K16 → V p l e { frames := 4, cells := 0, slots := 0, locals := 91 } s m args below meth c G (va_A (wMod G a0 v0.1 v0.2.1 v0.2.2.1 v0.2.2.2.1 v0.2.2.2.2.1 v0.2.2.2.2.2.1 v0.2.2.2.2.2.2.1 v0.2.2.2.2.2.2.2.1 v0.2.2.2.2.2.2.2.2.1 v0.2.2.2.2.2.2.2.2.2.1 v0.2.2.2.2.2.2.2.2.2.2.1 v0.2.2.2.2.2.2.2.2.2.2.2.1 v0.2.2.2.2.2.2.2.2.2.2.2.2.1 v0.2.2.2.2.2.2.2.2.2.2.2.2.2.1 v0.2.2.2.2.2.2.2.2.2.2.2.2.2.2.1 v0.2.2.2.2.2.2.2.2.2.2.2.2.2.2.2.1 v0.2.2.2.2.2.2.2.2.2.2.2.2.2.2.2.2) s.heap.size) 6 0 0 (MQ below (EQ G (wMod G a0 v0.1 v0.2.1 v0.2.2.1 v0.2.2.2.1 v0.2.2.2.2.1 v0.2.2.2.2.2.1 v0.2.2.2.2.2.2.1 v0.2.2.2.2.2.2.2.1 v0.2.2.2.2.2.2.2.2.1 v0.2.2.2.2.2.2.2.2.2.1 v0.2.2.2.2.2.2.2.2.2.2.1 v0.2.2.2.2.2.2.2.2.2.2.2.1 v0.2.2.2.2.2.2.2.2.2.2.2.2.1 v0.2.2.2.2.2.2.2.2.2.2.2.2.2.1 v0.2.2.2.2.2.2.2.2.2.2.2.2.2.2.1 v0.2.2.2.2.2.2.2.2.2.2.2.2.2.2.2.1 v0.2.2.2.2.2.2.2.2.2.2.2.2.2.2.2.2) s.heap.size (PV (fun u : ModV => wMod G a0 u.1 u.2.1 u.2.2.1 u.2.2.2.1 u.2.2.2.2.1 u.2.2.2.2.2.1 u.2.2.2.2.2.2.1 u.2.2.2.2.2.2.2.1 u.2.2.2.2.2.2.2.2.1 u.2.2.2.2.2.2.2.2.2.1 u.2.2.2.2.2.2.2.2.2.2.1 u.2.2.2.2.2.2.2.2.2.2.2.1 u.2.2.2.2.2.2.2.2.2.2.2.2.1 u.2.2.2.2.2.2.2.2.2.2.2.2.2.1 u.2.2.2.2.2.2.2.2.2.2.2.2.2.2.1 u.2.2.2.2.2.2.2.2.2.2.2.2.2.2.2.1 u.2.2.2.2.2.2.2.2.2.2.2.2.2.2.2.2) Q)) args s 0 0 (va_A (wMod G a0 v0.1 v0.2.1 v0.2.2.1 v0.2.2.2.1 v0.2.2.2.2.1 v0.2.2.2.2.2.1 v0.2.2.2.2.2.2.1 v0.2.2.2.2.2.2.2.1 v0.2.2.2.2.2.2.2.2.1 v0.2.2.2.2.2.2.2.2.2.1 v0.2.2.2.2.2.2.2.2.2.2.1 v0.2.2.2.2.2.2.2.2.2.2.2.1 v0.2.2.2.2.2.2.2.2.2.2.2.2.1 v0.2.2.2.2.2.2.2.2.2.2.2.2.2.1 v0.2.2.2.2.2.2.2.2.2.2.2.2.2.2.1 v0.2.2.2.2.2.2.2.2.2.2.2.2.2.2.2.1 v0.2.2.2.2.2.2.2.2.2.2.2.2.2.2.2.2) s.heap.size)) (wMod G a0 w0.1 w0.2.1 w0.2.2.1 w0.2.2.2.1 w0.2.2.2.2.1 w0.2.2.2.2.2.1 w0.2.2.2.2.2.2.1 w0.2.2.2.2.2.2.2.1 w0.2.2.2.2.2.2.2.2.1 w0.2.2.2.2.2.2.2.2.2.1 w0.2.2.2.2.2.2.2.2.2.2.1 w0.2.2.2.2.2.2.2.2.2.2.2.1 w0.2.2.2.2.2.2.2.2.2.2.2.2.1 w0.2.2.2.2.2.2.2.2.2.2.2.2.2.1 w0.2.2.2.2.2.2.2.2.2.2.2.2.2.2.1 w0.2.2.2.2.2.2.2.2.2.2.2.2.2.2.2.1 w0.2.2.2.2.2.2.2.2.2.2.2.2.2.2.2.2) 95 [(0, .ref a0.1), (1, .int x1), (2, .int x2), (3, .int x3), (4, .int x4), (5, .int x5)] [] := by
    intro x1 x2 x3 x4 x5 w0 K16 hK16 hw
    refine v_aload_n (pc2 := 96) S 0 dX9_goOn_95 rfl rfl rfl ?_
    refine v_iload (pc2 := 98) S 5 dX9_goOn_96 rfl rfl ?_
    refine v_iload_n (pc2 := 99) S 3 dX9_goOn_98 rfl rfl rfl ?_
    refine v_callV (pc2 := 102) (As := [.int x5, .int x3]) (rest := []) S (c_X9_joins l G a0 w0 x5 x3 _ hw) mf_X9_joins u_900 u_902 u_32 0 9 rfl rfl rfl rfl ⟨rfl, rfl⟩ ⟨Nat.le_of_ble_eq_true rfl, Nat.le_of_ble_eq_true rfl⟩ ⟨Nat.le_of_ble_eq_true rfl, Nat.le_of_ble_eq_true rfl⟩ (Nat.le_of_ble_eq_true rfl) dX9_goOn_99 (frW _) rfl (pb (fun r9 u10 br9 hw => ?_))
    refine v_to (wMod G a0 w0.1 w0.2.1 w0.2.2.1 w0.2.2.2.1 w0.2.2.2.2.1 w0.2.2.2.2.2.1 w0.2.2.2.2.2.2.1 w0.2.2.2.2.2.2.2.1 w0.2.2.2.2.2.2.2.2.1 w0.2.2.2.2.2.2.2.2.2.1 w0.2.2.2.2.2.2.2.2.2.2.1 w0.2.2.2.2.2.2.2.2.2.2.2.1 w0.2.2.2.2.2.2.2.2.2.2.2.2.1 w0.2.2.2.2.2.2.2.2.2.2.2.2.2.1 w0.2.2.2.2.2.2.2.2.2.2.2.2.2.2.1 w0.2.2.2.2.2.2.2.2.2.2.2.2.2.2.2.1 w0.2.2.2.2.2.2.2.2.2.2.2.2.2.2.2.2) 102 [(0, .ref a0.1), (1, .int x1), (2, .int x2), (3, .int x3), (4, .int x4), (5, .int x5)] _ [.int r9] rfl rfl rfl rfl ?_
    refine v_if_eq (pc2 := 105) (tgt := 153) S dX9_goOn_102 (by decide) rfl (fun c11 => ?_) (fun c11 => ?_)
    · have hw := hw.1 c11
      obtain ⟨z12, ez12⟩ : ∃ y : Int32, y = x5 + (1 : Int32) := ⟨_, rfl⟩
      have hw := hw z12 ez12
      refine v_iinc (v := z12) (lv2 := [(0, .ref a0.1), (1, .int x1), (2, .int x2), (3, .int x3), (4, .int x4), (5, .int z12)]) (pc2 := 156) S 5 dX9_goOn_153 rfl (by rw [ez12]; rfl) (by decide) [1, 2, 3, 4, 5, 0] rfl rfl ?_
      refine v_goto (tgt := 16) S dX9_goOn_156 (by decide) ?_
      exact hK16 z12 w0 hw
    · have hw := hw.2 c11
      refine v_aload_n (pc2 := 106) S 0 dX9_goOn_105 rfl rfl rfl ?_
      refine v_iload_n (pc2 := 107) S 1 dX9_goOn_106 rfl rfl rfl ?_
      refine v_iload (pc2 := 109) S 5 dX9_goOn_107 rfl rfl ?_
      refine v_callV (pc2 := 112) (As := [.int x1, .int x5]) (rest := []) S (c_X9_hasKey l G a0 w0 x1 x5 _ hw) mf_X9_hasKey u_935 u_937 u_38 0 9 rfl rfl rfl rfl ⟨rfl, rfl⟩ ⟨Nat.le_of_ble_eq_true rfl, Nat.le_of_ble_eq_true rfl⟩ ⟨Nat.le_of_ble_eq_true rfl, Nat.le_of_ble_eq_true rfl⟩ (Nat.le_of_ble_eq_true rfl) dX9_goOn_109 (frW _) rfl (pb (fun r13 u14 br13 hw => ?_))
      refine v_to (wMod G a0 w0.1 w0.2.1 w0.2.2.1 w0.2.2.2.1 w0.2.2.2.2.1 w0.2.2.2.2.2.1 w0.2.2.2.2.2.2.1 w0.2.2.2.2.2.2.2.1 w0.2.2.2.2.2.2.2.2.1 w0.2.2.2.2.2.2.2.2.2.1 w0.2.2.2.2.2.2.2.2.2.2.1 w0.2.2.2.2.2.2.2.2.2.2.2.1 w0.2.2.2.2.2.2.2.2.2.2.2.2.1 w0.2.2.2.2.2.2.2.2.2.2.2.2.2.1 w0.2.2.2.2.2.2.2.2.2.2.2.2.2.2.1 w0.2.2.2.2.2.2.2.2.2.2.2.2.2.2.2.1 w0.2.2.2.2.2.2.2.2.2.2.2.2.2.2.2.2) 112 [(0, .ref a0.1), (1, .int x1), (2, .int x2), (3, .int x3), (4, .int x4), (5, .int x5)] _ [.int r13] rfl rfl rfl rfl ?_
      refine v_if_eq (pc2 := 115) (tgt := 153) S dX9_goOn_112 (by decide) rfl (fun c15 => ?_) (fun c15 => ?_)
      · have hw := hw.1 c15
        obtain ⟨z16, ez16⟩ : ∃ y : Int32, y = x5 + (1 : Int32) := ⟨_, rfl⟩
        have hw := hw z16 ez16
        refine v_iinc (v := z16) (lv2 := [(0, .ref a0.1), (1, .int x1), (2, .int x2), (3, .int x3), (4, .int x4), (5, .int z16)]) (pc2 := 156) S 5 dX9_goOn_153 rfl (by rw [ez16]; rfl) (by decide) [1, 2, 3, 4, 5, 0] rfl rfl ?_
        refine v_goto (tgt := 16) S dX9_goOn_156 (by decide) ?_
        exact hK16 z16 w0 hw
      · have hw := hw.2 c15
        refine v_aload_n (pc2 := 116) S 0 dX9_goOn_115 rfl rfl rfl ?_
        refine v_iload (pc2 := 118) S 5 dX9_goOn_116 rfl rfl ?_
        refine v_callV (pc2 := 121) (As := [.int x5]) (rest := []) S (c_X9_reason l G a0 w0 x5 _ hw) mf_X9_reason u_868 u_870 u_24 0 9 rfl rfl rfl rfl ⟨rfl, rfl⟩ ⟨Nat.le_of_ble_eq_true rfl, Nat.le_of_ble_eq_true rfl⟩ ⟨Nat.le_of_ble_eq_true rfl, Nat.le_of_ble_eq_true rfl⟩ (Nat.le_of_ble_eq_true rfl) dX9_goOn_118 (frW _) rfl (pi (fun r17 u18 hw => ?_))
        refine v_to (wMod G a0 w0.1 w0.2.1 w0.2.2.1 w0.2.2.2.1 w0.2.2.2.2.1 w0.2.2.2.2.2.1 w0.2.2.2.2.2.2.1 w0.2.2.2.2.2.2.2.1 w0.2.2.2.2.2.2.2.2.1 w0.2.2.2.2.2.2.2.2.2.1 w0.2.2.2.2.2.2.2.2.2.2.1 w0.2.2.2.2.2.2.2.2.2.2.2.1 w0.2.2.2.2.2.2.2.2.2.2.2.2.1 w0.2.2.2.2.2.2.2.2.2.2.2.2.2.1 w0.2.2.2.2.2.2.2.2.2.2.2.2.2.2.1 w0.2.2.2.2.2.2.2.2.2.2.2.2.2.2.2.1 w0.2.2.2.2.2.2.2.2.2.2.2.2.2.2.2.2) 121 [(0, .ref a0.1), (1, .int x1), (2, .int x2), (3, .int x3), (4, .int x4), (5, .int x5)] _ [.int r17] rfl rfl rfl rfl ?_
        refine v_if_ne (pc2 := 124) (tgt := 153) S dX9_goOn_121 (by decide) rfl (fun c19 => ?_) (fun c19 => ?_)
        · have hw := hw.1 c19
          obtain ⟨z20, ez20⟩ : ∃ y : Int32, y = x5 + (1 : Int32) := ⟨_, rfl⟩
          have hw := hw z20 ez20
          refine v_iinc (v := z20) (lv2 := [(0, .ref a0.1), (1, .int x1), (2, .int x2), (3, .int x3), (4, .int x4), (5, .int z20)]) (pc2 := 156) S 5 dX9_goOn_153 rfl (by rw [ez20]; rfl) (by decide) [1, 2, 3, 4, 5, 0] rfl rfl ?_
          refine v_goto (tgt := 16) S dX9_goOn_156 (by decide) ?_
          exact hK16 z20 w0 hw
        · have hw := hw.2 c19
          refine v_aload_n (pc2 := 125) S 0 dX9_goOn_124 rfl rfl rfl ?_
          refine v_iload (pc2 := 127) S 5 dX9_goOn_125 rfl rfl ?_
          refine v_callV (pc2 := 130) (As := [.int x5]) (rest := []) S (c_X9_opens l G a0 w0 x5 _ hw) mf_X9_opens u_888 u_890 u_29 0 9 rfl rfl rfl rfl ⟨rfl, rfl⟩ ⟨Nat.le_of_ble_eq_true rfl, Nat.le_of_ble_eq_true rfl⟩ ⟨Nat.le_of_ble_eq_true rfl, Nat.le_of_ble_eq_true rfl⟩ (Nat.le_of_ble_eq_true rfl) dX9_goOn_127 (frW _) rfl (pi (fun r21 u22 hw => ?_))
          refine v_to (wMod G a0 u22.1 u22.2.1 u22.2.2.1 u22.2.2.2.1 u22.2.2.2.2.1 u22.2.2.2.2.2.1 u22.2.2.2.2.2.2.1 u22.2.2.2.2.2.2.2.1 u22.2.2.2.2.2.2.2.2.1 u22.2.2.2.2.2.2.2.2.2.1 u22.2.2.2.2.2.2.2.2.2.2.1 u22.2.2.2.2.2.2.2.2.2.2.2.1 u22.2.2.2.2.2.2.2.2.2.2.2.2.1 u22.2.2.2.2.2.2.2.2.2.2.2.2.2.1 u22.2.2.2.2.2.2.2.2.2.2.2.2.2.2.1 u22.2.2.2.2.2.2.2.2.2.2.2.2.2.2.2.1 u22.2.2.2.2.2.2.2.2.2.2.2.2.2.2.2.2) 130 [(0, .ref a0.1), (1, .int x1), (2, .int x2), (3, .int x3), (4, .int x4), (5, .int x5)] _ [.int r21] rfl rfl rfl rfl ?_
          refine v_pop (pc2 := 131) S dX9_goOn_130 rfl rfl ?_
          refine v_aload_n (pc2 := 132) S 0 dX9_goOn_131 rfl rfl rfl ?_
          refine v_sipush (v := 1024) (pc2 := 135) S dX9_goOn_132 (by decide) rfl ?_
          refine v_iload_n (pc2 := 136) S 3 dX9_goOn_135 rfl rfl rfl ?_
          refine v_imul (pc2 := 137) S dX9_goOn_136 rfl ?_
          refine v_aload_n (pc2 := 138) S 0 dX9_goOn_137 rfl rfl rfl ?_
          refine v_callV (pc2 := 141) (As := []) (rest := [.int ((1024 : Int32) * x3), .ref a0.1]) S (c_X9_openSet l G a0 u22 _ hw) mf_X9_openSet u_838 u_840 u_20 0 9 rfl rfl rfl rfl ⟨rfl, rfl⟩ ⟨Nat.le_of_ble_eq_true rfl, Nat.le_of_ble_eq_true rfl⟩ ⟨Nat.le_of_ble_eq_true rfl, Nat.le_of_ble_eq_true rfl⟩ (Nat.le_of_ble_eq_true rfl) dX9_goOn_138 (frW _) rfl (pi (fun r23 u24 hw => ?_))
          refine v_to (wMod G a0 u22.1 u22.2.1 u22.2.2.1 u22.2.2.2.1 u22.2.2.2.2.1 u22.2.2.2.2.2.1 u22.2.2.2.2.2.2.1 u22.2.2.2.2.2.2.2.1 u22.2.2.2.2.2.2.2.2.1 u22.2.2.2.2.2.2.2.2.2.1 u22.2.2.2.2.2.2.2.2.2.2.1 u22.2.2.2.2.2.2.2.2.2.2.2.1 u22.2.2.2.2.2.2.2.2.2.2.2.2.1 u22.2.2.2.2.2.2.2.2.2.2.2.2.2.1 u22.2.2.2.2.2.2.2.2.2.2.2.2.2.2.1 u22.2.2.2.2.2.2.2.2.2.2.2.2.2.2.2.1 u22.2.2.2.2.2.2.2.2.2.2.2.2.2.2.2.2) 141 [(0, .ref a0.1), (1, .int x1), (2, .int x2), (3, .int x3), (4, .int x4), (5, .int x5)] _ [.int r23, .int ((1024 : Int32) * x3), .ref a0.1] rfl rfl rfl rfl ?_
          refine v_iadd (pc2 := 142) S dX9_goOn_141 rfl ?_
          refine v_aload_n (pc2 := 143) S 0 dX9_goOn_142 rfl rfl rfl ?_
          refine v_get (v := .ref a0.2.2.2.2.2.2.2.1) (pc2 := 146) S gf_X9_38 0 rfl rfl dX9_goOn_143 rfl ?_
          refine v_iload_n (pc2 := 147) S 2 dX9_goOn_146 rfl rfl rfl ?_
          obtain ⟨h25, hw⟩ := hw
          refine v_iald (pc2 := 148) S 7 rfl h25 dX9_goOn_147 rfl ?_
          refine v_iconst (v := 1) (pc2 := 149) S dX9_goOn_148 (by decide) rfl ?_
          refine v_iadd (pc2 := 150) S dX9_goOn_149 rfl ?_
          refine v_callV (pc2 := 153) (As := [.int (((1024 : Int32) * x3) + r23), .int ((u22.2.2.2.2.2.2.2.2.2.2.2.2.2.2.1 x2.toNatClampNeg) + (1 : Int32))]) (rest := []) S (c_X9_reach l G a0 u22 (((1024 : Int32) * x3) + r23) ((u22.2.2.2.2.2.2.2.2.2.2.2.2.2.2.1 x2.toNatClampNeg) + (1 : Int32)) _ hw) mf_X9_reach u_1081 u_1083 u_55 0 9 rfl rfl rfl rfl ⟨rfl, rfl⟩ ⟨Nat.le_of_ble_eq_true rfl, Nat.le_of_ble_eq_true rfl⟩ ⟨Nat.le_of_ble_eq_true rfl, Nat.le_of_ble_eq_true rfl⟩ (Nat.le_of_ble_eq_true rfl) dX9_goOn_150 (frW _) rfl (pv (fun u27 hw => ?_))
          refine v_to (wMod G a0 u27.1 u27.2.1 u27.2.2.1 u27.2.2.2.1 u27.2.2.2.2.1 u27.2.2.2.2.2.1 u27.2.2.2.2.2.2.1 u27.2.2.2.2.2.2.2.1 u27.2.2.2.2.2.2.2.2.1 u27.2.2.2.2.2.2.2.2.2.1 u27.2.2.2.2.2.2.2.2.2.2.1 u27.2.2.2.2.2.2.2.2.2.2.2.1 u27.2.2.2.2.2.2.2.2.2.2.2.2.1 u27.2.2.2.2.2.2.2.2.2.2.2.2.2.1 u27.2.2.2.2.2.2.2.2.2.2.2.2.2.2.1 u27.2.2.2.2.2.2.2.2.2.2.2.2.2.2.2.1 u27.2.2.2.2.2.2.2.2.2.2.2.2.2.2.2.2) 153 [(0, .ref a0.1), (1, .int x1), (2, .int x2), (3, .int x3), (4, .int x4), (5, .int x5)] _ [] rfl rfl rfl rfl ?_
          obtain ⟨z28, ez28⟩ : ∃ y : Int32, y = x5 + (1 : Int32) := ⟨_, rfl⟩
          have hw := hw z28 ez28
          refine v_iinc (v := z28) (lv2 := [(0, .ref a0.1), (1, .int x1), (2, .int x2), (3, .int x3), (4, .int x4), (5, .int z28)]) (pc2 := 156) S 5 dX9_goOn_153 rfl (by rw [ez28]; rfl) (by decide) [1, 2, 3, 4, 5, 0] rfl rfl ?_
          refine v_goto (tgt := 16) S dX9_goOn_156 (by decide) ?_
          exact hK16 z28 u27 hw
  have L16 : ∀ (x1 : Int32) (x2 : Int32) (x3 : Int32) (x4 : Int32) (kk : Nat) (x5 : Int32) (w0 : ModV), wp_X9_goOn_L16 x1 x2 x3 x4 Q kk x5 w0 → V p l e { frames := 4, cells := 0, slots := 0, locals := 91 } s m args below meth c G (va_A (wMod G a0 v0.1 v0.2.1 v0.2.2.1 v0.2.2.2.1 v0.2.2.2.2.1 v0.2.2.2.2.2.1 v0.2.2.2.2.2.2.1 v0.2.2.2.2.2.2.2.1 v0.2.2.2.2.2.2.2.2.1 v0.2.2.2.2.2.2.2.2.2.1 v0.2.2.2.2.2.2.2.2.2.2.1 v0.2.2.2.2.2.2.2.2.2.2.2.1 v0.2.2.2.2.2.2.2.2.2.2.2.2.1 v0.2.2.2.2.2.2.2.2.2.2.2.2.2.1 v0.2.2.2.2.2.2.2.2.2.2.2.2.2.2.1 v0.2.2.2.2.2.2.2.2.2.2.2.2.2.2.2.1 v0.2.2.2.2.2.2.2.2.2.2.2.2.2.2.2.2) s.heap.size) 6 0 0 (MQ below (EQ G (wMod G a0 v0.1 v0.2.1 v0.2.2.1 v0.2.2.2.1 v0.2.2.2.2.1 v0.2.2.2.2.2.1 v0.2.2.2.2.2.2.1 v0.2.2.2.2.2.2.2.1 v0.2.2.2.2.2.2.2.2.1 v0.2.2.2.2.2.2.2.2.2.1 v0.2.2.2.2.2.2.2.2.2.2.1 v0.2.2.2.2.2.2.2.2.2.2.2.1 v0.2.2.2.2.2.2.2.2.2.2.2.2.1 v0.2.2.2.2.2.2.2.2.2.2.2.2.2.1 v0.2.2.2.2.2.2.2.2.2.2.2.2.2.2.1 v0.2.2.2.2.2.2.2.2.2.2.2.2.2.2.2.1 v0.2.2.2.2.2.2.2.2.2.2.2.2.2.2.2.2) s.heap.size (PV (fun u : ModV => wMod G a0 u.1 u.2.1 u.2.2.1 u.2.2.2.1 u.2.2.2.2.1 u.2.2.2.2.2.1 u.2.2.2.2.2.2.1 u.2.2.2.2.2.2.2.1 u.2.2.2.2.2.2.2.2.1 u.2.2.2.2.2.2.2.2.2.1 u.2.2.2.2.2.2.2.2.2.2.1 u.2.2.2.2.2.2.2.2.2.2.2.1 u.2.2.2.2.2.2.2.2.2.2.2.2.1 u.2.2.2.2.2.2.2.2.2.2.2.2.2.1 u.2.2.2.2.2.2.2.2.2.2.2.2.2.2.1 u.2.2.2.2.2.2.2.2.2.2.2.2.2.2.2.1 u.2.2.2.2.2.2.2.2.2.2.2.2.2.2.2.2) Q)) args s 0 0 (va_A (wMod G a0 v0.1 v0.2.1 v0.2.2.1 v0.2.2.2.1 v0.2.2.2.2.1 v0.2.2.2.2.2.1 v0.2.2.2.2.2.2.1 v0.2.2.2.2.2.2.2.1 v0.2.2.2.2.2.2.2.2.1 v0.2.2.2.2.2.2.2.2.2.1 v0.2.2.2.2.2.2.2.2.2.2.1 v0.2.2.2.2.2.2.2.2.2.2.2.1 v0.2.2.2.2.2.2.2.2.2.2.2.2.1 v0.2.2.2.2.2.2.2.2.2.2.2.2.2.1 v0.2.2.2.2.2.2.2.2.2.2.2.2.2.2.1 v0.2.2.2.2.2.2.2.2.2.2.2.2.2.2.2.1 v0.2.2.2.2.2.2.2.2.2.2.2.2.2.2.2.2) s.heap.size)) (wMod G a0 w0.1 w0.2.1 w0.2.2.1 w0.2.2.2.1 w0.2.2.2.2.1 w0.2.2.2.2.2.1 w0.2.2.2.2.2.2.1 w0.2.2.2.2.2.2.2.1 w0.2.2.2.2.2.2.2.2.1 w0.2.2.2.2.2.2.2.2.2.1 w0.2.2.2.2.2.2.2.2.2.2.1 w0.2.2.2.2.2.2.2.2.2.2.2.1 w0.2.2.2.2.2.2.2.2.2.2.2.2.1 w0.2.2.2.2.2.2.2.2.2.2.2.2.2.1 w0.2.2.2.2.2.2.2.2.2.2.2.2.2.2.1 w0.2.2.2.2.2.2.2.2.2.2.2.2.2.2.2.1 w0.2.2.2.2.2.2.2.2.2.2.2.2.2.2.2.2) 16 [(0, .ref a0.1), (1, .int x1), (2, .int x2), (3, .int x3), (4, .int x4), (5, .int x5)] [] := by
    intro x1 x2 x3 x4 kk
    induction kk with
    | zero => intro x5 w0 hw; exact hw.elim
    | succ n ih =>
      intro x5 w0 hw
      refine v_iload (pc2 := 18) S 5 dX9_goOn_16 rfl rfl ?_
      refine v_bipush (v := 10) (pc2 := 20) S dX9_goOn_18 (by decide) rfl ?_
      refine v_icmp_ge (pc2 := 23) (tgt := 159) S dX9_goOn_20 (by decide) rfl (fun c3 => ?_) (fun c3 => ?_)
      · have hw := hw.1 c3
        exact v_vret S ⟨w0, rfl, rfl, hw⟩ dX9_goOn_159
      · have hw := hw.2 c3
        refine v_aload_n (pc2 := 24) S 0 dX9_goOn_23 rfl rfl rfl ?_
        refine v_iload (pc2 := 26) S 4 dX9_goOn_24 rfl rfl ?_
        refine v_callV (pc2 := 29) (As := [.int x4]) (rest := []) S (c_X9_laySet l G a0 w0 x4 _ hw) mf_X9_laySet u_1089 u_1091 u_57 0 9 rfl rfl rfl rfl ⟨rfl, rfl⟩ ⟨Nat.le_of_ble_eq_true rfl, Nat.le_of_ble_eq_true rfl⟩ ⟨Nat.le_of_ble_eq_true rfl, Nat.le_of_ble_eq_true rfl⟩ (Nat.le_of_ble_eq_true rfl) dX9_goOn_26 (frW _) rfl (pv (fun u5 hw => ?_))
        refine v_to (wMod G a0 u5.1 u5.2.1 u5.2.2.1 u5.2.2.2.1 u5.2.2.2.2.1 u5.2.2.2.2.2.1 u5.2.2.2.2.2.2.1 u5.2.2.2.2.2.2.2.1 u5.2.2.2.2.2.2.2.2.1 u5.2.2.2.2.2.2.2.2.2.1 u5.2.2.2.2.2.2.2.2.2.2.1 u5.2.2.2.2.2.2.2.2.2.2.2.1 u5.2.2.2.2.2.2.2.2.2.2.2.2.1 u5.2.2.2.2.2.2.2.2.2.2.2.2.2.1 u5.2.2.2.2.2.2.2.2.2.2.2.2.2.2.1 u5.2.2.2.2.2.2.2.2.2.2.2.2.2.2.2.1 u5.2.2.2.2.2.2.2.2.2.2.2.2.2.2.2.2) 29 [(0, .ref a0.1), (1, .int x1), (2, .int x2), (3, .int x3), (4, .int x4), (5, .int x5)] _ [] rfl rfl rfl rfl ?_
        refine v_aload_n (pc2 := 30) S 0 dX9_goOn_29 rfl rfl rfl ?_
        refine v_iload (pc2 := 32) S 5 dX9_goOn_30 rfl rfl ?_
        refine v_iload_n (pc2 := 33) S 3 dX9_goOn_32 rfl rfl rfl ?_
        refine v_callV (pc2 := 36) (As := [.int x5, .int x3]) (rest := []) S (c_X9_joins l G a0 u5 x5 x3 _ hw) mf_X9_joins u_900 u_902 u_32 0 9 rfl rfl rfl rfl ⟨rfl, rfl⟩ ⟨Nat.le_of_ble_eq_true rfl, Nat.le_of_ble_eq_true rfl⟩ ⟨Nat.le_of_ble_eq_true rfl, Nat.le_of_ble_eq_true rfl⟩ (Nat.le_of_ble_eq_true rfl) dX9_goOn_33 (frW _) rfl (pb (fun r6 u7 br6 hw => ?_))
        refine v_to (wMod G a0 u5.1 u5.2.1 u5.2.2.1 u5.2.2.2.1 u5.2.2.2.2.1 u5.2.2.2.2.2.1 u5.2.2.2.2.2.2.1 u5.2.2.2.2.2.2.2.1 u5.2.2.2.2.2.2.2.2.1 u5.2.2.2.2.2.2.2.2.2.1 u5.2.2.2.2.2.2.2.2.2.2.1 u5.2.2.2.2.2.2.2.2.2.2.2.1 u5.2.2.2.2.2.2.2.2.2.2.2.2.1 u5.2.2.2.2.2.2.2.2.2.2.2.2.2.1 u5.2.2.2.2.2.2.2.2.2.2.2.2.2.2.1 u5.2.2.2.2.2.2.2.2.2.2.2.2.2.2.2.1 u5.2.2.2.2.2.2.2.2.2.2.2.2.2.2.2.2) 36 [(0, .ref a0.1), (1, .int x1), (2, .int x2), (3, .int x3), (4, .int x4), (5, .int x5)] _ [.int r6] rfl rfl rfl rfl ?_
        refine v_if_eq (pc2 := 39) (tgt := 95) S dX9_goOn_36 (by decide) rfl (fun c8 => ?_) (fun c8 => ?_)
        · have hw := hw.1 c8
          exact B95 x1 x2 x3 x4 x5 u5 (wp_X9_goOn_L16 x1 x2 x3 x4 Q n) ih hw
        · have hw := hw.2 c8
          refine v_aload_n (pc2 := 40) S 0 dX9_goOn_39 rfl rfl rfl ?_
          refine v_iload (pc2 := 42) S 5 dX9_goOn_40 rfl rfl ?_
          refine v_callV (pc2 := 45) (As := [.int x5]) (rest := []) S (c_X9_isOpen l G a0 u5 x5 _ hw) mf_X9_isOpen u_872 u_874 u_25 0 9 rfl rfl rfl rfl ⟨rfl, rfl⟩ ⟨Nat.le_of_ble_eq_true rfl, Nat.le_of_ble_eq_true rfl⟩ ⟨Nat.le_of_ble_eq_true rfl, Nat.le_of_ble_eq_true rfl⟩ (Nat.le_of_ble_eq_true rfl) dX9_goOn_42 (frW _) rfl (pb (fun r29 u30 br29 hw => ?_))
          refine v_to (wMod G a0 u5.1 u5.2.1 u5.2.2.1 u5.2.2.2.1 u5.2.2.2.2.1 u5.2.2.2.2.2.1 u5.2.2.2.2.2.2.1 u5.2.2.2.2.2.2.2.1 u5.2.2.2.2.2.2.2.2.1 u5.2.2.2.2.2.2.2.2.2.1 u5.2.2.2.2.2.2.2.2.2.2.1 u5.2.2.2.2.2.2.2.2.2.2.2.1 u5.2.2.2.2.2.2.2.2.2.2.2.2.1 u5.2.2.2.2.2.2.2.2.2.2.2.2.2.1 u5.2.2.2.2.2.2.2.2.2.2.2.2.2.2.1 u5.2.2.2.2.2.2.2.2.2.2.2.2.2.2.2.1 u5.2.2.2.2.2.2.2.2.2.2.2.2.2.2.2.2) 45 [(0, .ref a0.1), (1, .int x1), (2, .int x2), (3, .int x3), (4, .int x4), (5, .int x5)] _ [.int r29] rfl rfl rfl rfl ?_
          refine v_if_eq (pc2 := 48) (tgt := 95) S dX9_goOn_45 (by decide) rfl (fun c31 => ?_) (fun c31 => ?_)
          · have hw := hw.1 c31
            exact B95 x1 x2 x3 x4 x5 u5 (wp_X9_goOn_L16 x1 x2 x3 x4 Q n) ih hw
          · have hw := hw.2 c31
            refine v_aload_n (pc2 := 49) S 0 dX9_goOn_48 rfl rfl rfl ?_
            refine v_sipush (v := 1024) (pc2 := 52) S dX9_goOn_49 (by decide) rfl ?_
            refine v_aload_n (pc2 := 53) S 0 dX9_goOn_52 rfl rfl rfl ?_
            refine v_iload (pc2 := 55) S 5 dX9_goOn_53 rfl rfl ?_
            refine v_iload_n (pc2 := 56) S 3 dX9_goOn_55 rfl rfl rfl ?_
            refine v_callV (pc2 := 59) (As := [.int x5, .int x3]) (rest := [.int (1024 : Int32), .ref a0.1]) S (c_X9_across l G a0 u5 x5 x3 _ hw) mf_X9_across u_955 u_957 u_41 0 9 rfl rfl rfl rfl ⟨rfl, rfl⟩ ⟨Nat.le_of_ble_eq_true rfl, Nat.le_of_ble_eq_true rfl⟩ ⟨Nat.le_of_ble_eq_true rfl, Nat.le_of_ble_eq_true rfl⟩ (Nat.le_of_ble_eq_true rfl) dX9_goOn_56 (frW _) rfl (pi (fun r32 u33 hw => ?_))
            refine v_to (wMod G a0 u5.1 u5.2.1 u5.2.2.1 u5.2.2.2.1 u5.2.2.2.2.1 u5.2.2.2.2.2.1 u5.2.2.2.2.2.2.1 u5.2.2.2.2.2.2.2.1 u5.2.2.2.2.2.2.2.2.1 u5.2.2.2.2.2.2.2.2.2.1 u5.2.2.2.2.2.2.2.2.2.2.1 u5.2.2.2.2.2.2.2.2.2.2.2.1 u5.2.2.2.2.2.2.2.2.2.2.2.2.1 u5.2.2.2.2.2.2.2.2.2.2.2.2.2.1 u5.2.2.2.2.2.2.2.2.2.2.2.2.2.2.1 u5.2.2.2.2.2.2.2.2.2.2.2.2.2.2.2.1 u5.2.2.2.2.2.2.2.2.2.2.2.2.2.2.2.2) 59 [(0, .ref a0.1), (1, .int x1), (2, .int x2), (3, .int x3), (4, .int x4), (5, .int x5)] _ [.int r32, .int (1024 : Int32), .ref a0.1] rfl rfl rfl rfl ?_
            refine v_imul (pc2 := 60) S dX9_goOn_59 rfl ?_
            refine v_iload (pc2 := 62) S 4 dX9_goOn_60 rfl rfl ?_
            refine v_iadd (pc2 := 63) S dX9_goOn_62 rfl ?_
            refine v_aload_n (pc2 := 64) S 0 dX9_goOn_63 rfl rfl rfl ?_
            refine v_get (v := .ref a0.2.2.2.2.2.2.2.1) (pc2 := 67) S gf_X9_38 0 rfl rfl dX9_goOn_64 rfl ?_
            refine v_iload_n (pc2 := 68) S 2 dX9_goOn_67 rfl rfl rfl ?_
            obtain ⟨h34, hw⟩ := hw
            refine v_iald (pc2 := 69) S 7 rfl h34 dX9_goOn_68 rfl ?_
            refine v_iconst (v := 1) (pc2 := 70) S dX9_goOn_69 (by decide) rfl ?_
            refine v_iadd (pc2 := 71) S dX9_goOn_70 rfl ?_
            refine v_callV (pc2 := 74) (As := [.int (((1024 : Int32) * r32) + x4), .int ((u5.2.2.2.2.2.2.2.2.2.2.2.2.2.2.1 x2.toNatClampNeg) + (1 : Int32))]) (rest := []) S (c_X9_reach l G a0 u5 (((1024 : Int32) * r32) + x4) ((u5.2.2.2.2.2.2.2.2.2.2.2.2.2.2.1 x2.toNatClampNeg) + (1 : Int32)) _ hw) mf_X9_reach u_1081 u_1083 u_55 0 9 rfl rfl rfl rfl ⟨rfl, rfl⟩ ⟨Nat.le_of_ble_eq_true rfl, Nat.le_of_ble_eq_true rfl⟩ ⟨Nat.le_of_ble_eq_true rfl, Nat.le_of_ble_eq_true rfl⟩ (Nat.le_of_ble_eq_true rfl) dX9_goOn_71 (frW _) rfl (pv (fun u36 hw => ?_))
            refine v_to (wMod G a0 u36.1 u36.2.1 u36.2.2.1 u36.2.2.2.1 u36.2.2.2.2.1 u36.2.2.2.2.2.1 u36.2.2.2.2.2.2.1 u36.2.2.2.2.2.2.2.1 u36.2.2.2.2.2.2.2.2.1 u36.2.2.2.2.2.2.2.2.2.1 u36.2.2.2.2.2.2.2.2.2.2.1 u36.2.2.2.2.2.2.2.2.2.2.2.1 u36.2.2.2.2.2.2.2.2.2.2.2.2.1 u36.2.2.2.2.2.2.2.2.2.2.2.2.2.1 u36.2.2.2.2.2.2.2.2.2.2.2.2.2.2.1 u36.2.2.2.2.2.2.2.2.2.2.2.2.2.2.2.1 u36.2.2.2.2.2.2.2.2.2.2.2.2.2.2.2.2) 74 [(0, .ref a0.1), (1, .int x1), (2, .int x2), (3, .int x3), (4, .int x4), (5, .int x5)] _ [] rfl rfl rfl rfl ?_
            refine v_aload_n (pc2 := 75) S 0 dX9_goOn_74 rfl rfl rfl ?_
            refine v_iload_n (pc2 := 76) S 2 dX9_goOn_75 rfl rfl rfl ?_
            refine v_iconst (v := 1) (pc2 := 77) S dX9_goOn_76 (by decide) rfl ?_
            refine v_iload (pc2 := 79) S 5 dX9_goOn_77 rfl rfl ?_
            refine v_ishl (pc2 := 80) S dX9_goOn_79 rfl ?_
            refine v_isub (pc2 := 81) S dX9_goOn_80 rfl ?_
            refine v_aload_n (pc2 := 82) S 0 dX9_goOn_81 rfl rfl rfl ?_
            refine v_get (v := .ref a0.2.2.2.2.2.2.2.1) (pc2 := 85) S gf_X9_38 0 rfl rfl dX9_goOn_82 rfl ?_
            refine v_iload_n (pc2 := 86) S 2 dX9_goOn_85 rfl rfl rfl ?_
            obtain ⟨h37, hw⟩ := hw
            refine v_iald (pc2 := 87) S 7 rfl h37 dX9_goOn_86 rfl ?_
            refine v_iconst (v := 1) (pc2 := 88) S dX9_goOn_87 (by decide) rfl ?_
            refine v_iadd (pc2 := 89) S dX9_goOn_88 rfl ?_
            refine v_callV (pc2 := 92) (As := [.int (x2 - ((1 : Int32) <<< (x5 &&& 31))), .int ((u36.2.2.2.2.2.2.2.2.2.2.2.2.2.2.1 x2.toNatClampNeg) + (1 : Int32))]) (rest := []) S (c_X9_reach l G a0 u36 (x2 - ((1 : Int32) <<< (x5 &&& 31))) ((u36.2.2.2.2.2.2.2.2.2.2.2.2.2.2.1 x2.toNatClampNeg) + (1 : Int32)) _ hw) mf_X9_reach u_1081 u_1083 u_55 0 9 rfl rfl rfl rfl ⟨rfl, rfl⟩ ⟨Nat.le_of_ble_eq_true rfl, Nat.le_of_ble_eq_true rfl⟩ ⟨Nat.le_of_ble_eq_true rfl, Nat.le_of_ble_eq_true rfl⟩ (Nat.le_of_ble_eq_true rfl) dX9_goOn_89 (frW _) rfl (pv (fun u39 hw => ?_))
            refine v_to (wMod G a0 u39.1 u39.2.1 u39.2.2.1 u39.2.2.2.1 u39.2.2.2.2.1 u39.2.2.2.2.2.1 u39.2.2.2.2.2.2.1 u39.2.2.2.2.2.2.2.1 u39.2.2.2.2.2.2.2.2.1 u39.2.2.2.2.2.2.2.2.2.1 u39.2.2.2.2.2.2.2.2.2.2.1 u39.2.2.2.2.2.2.2.2.2.2.2.1 u39.2.2.2.2.2.2.2.2.2.2.2.2.1 u39.2.2.2.2.2.2.2.2.2.2.2.2.2.1 u39.2.2.2.2.2.2.2.2.2.2.2.2.2.2.1 u39.2.2.2.2.2.2.2.2.2.2.2.2.2.2.2.1 u39.2.2.2.2.2.2.2.2.2.2.2.2.2.2.2.2) 92 [(0, .ref a0.1), (1, .int x1), (2, .int x2), (3, .int x3), (4, .int x4), (5, .int x5)] _ [] rfl rfl rfl rfl ?_
            refine v_goto (tgt := 153) S dX9_goOn_92 (by decide) ?_
            obtain ⟨z40, ez40⟩ : ∃ y : Int32, y = x5 + (1 : Int32) := ⟨_, rfl⟩
            have hw := hw z40 ez40
            refine v_iinc (v := z40) (lv2 := [(0, .ref a0.1), (1, .int x1), (2, .int x2), (3, .int x3), (4, .int x4), (5, .int z40)]) (pc2 := 156) S 5 dX9_goOn_153 rfl (by rw [ez40]; rfl) (by decide) [1, 2, 3, 4, 5, 0] rfl rfl ?_
            refine v_goto (tgt := 16) S dX9_goOn_156 (by decide) ?_
            exact ih z40 u39 hw
  refine v_iload_n (pc2 := 1) S 2 dX9_goOn_0 rfl rfl rfl ?_
  refine v_sipush (v := 1024) (pc2 := 4) S dX9_goOn_1 (by decide) rfl ?_
  refine v_idiv (pc2 := 5) S (by decide) dX9_goOn_4 rfl ?_
  refine v_nm (fun z1 ez1 => ?_)
  have hw := hw z1 ez1
  refine v_istore_n (lv2 := [(0, .ref a0.1), (1, .int i0), (2, .int i1), (3, .int z1)]) (pc2 := 6) S dX9_goOn_5 rfl (by decide) [1, 2, 3, 0] rfl rfl ?_
  refine v_iload_n (pc2 := 7) S 2 dX9_goOn_6 rfl rfl rfl ?_
  refine v_sipush (v := 1024) (pc2 := 10) S dX9_goOn_7 (by decide) rfl ?_
  refine v_irem (pc2 := 11) S (by decide) dX9_goOn_10 rfl ?_
  refine v_nm (fun z2 ez2 => ?_)
  have hw := hw z2 ez2
  refine v_istore (lv2 := [(0, .ref a0.1), (1, .int i0), (2, .int i1), (3, .int z1), (4, .int z2)]) (pc2 := 13) S dX9_goOn_11 (by decide) [1, 2, 3, 4, 0] rfl rfl ?_
  refine v_iconst (v := 0) (pc2 := 14) S dX9_goOn_13 (by decide) rfl ?_
  refine v_istore (lv2 := [(0, .ref a0.1), (1, .int i0), (2, .int i1), (3, .int z1), (4, .int z2), (5, .int (0 : Int32))]) (pc2 := 16) S dX9_goOn_14 (by decide) [1, 2, 3, 4, 5, 0] rfl rfl ?_
  obtain ⟨kk, hw⟩ := hw
  exact L16 i0 i1 z1 z2 kk (0 : Int32) v0 hw
