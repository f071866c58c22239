set_option maxHeartbeats 4000000 in
set_option maxRecDepth 100000 in
theorem c_X9_readPad (l : Launch) (G : GG) (a0 : ModA) (v0 : ModV) (Q : Int32 → ModV → Prop) (hw : wp_X9_readPad v0 Q) : Con l G yX9_readPad cX9_readPad 2 (some .boolean) { frames := 4, cells := 0, slots := 0, locals := 90 } [.ref a0.1] (wMod G a0 v0.1 v0.2.1 v0.2.2.1 v0.2.2.2.1 v0.2.2.2.2.1 v0.2.2.2.2.2.1 v0.2.2.2.2.2.2.1 v0.2.2.2.2.2.2.2.1 v0.2.2.2.2.2.2.2.2.1 v0.2.2.2.2.2.2.2.2.2.1 v0.2.2.2.2.2.2.2.2.2.2.1 v0.2.2.2.2.2.2.2.2.2.2.2.1 v0.2.2.2.2.2.2.2.2.2.2.2.2.1 v0.2.2.2.2.2.2.2.2.2.2.2.2.2.1 v0.2.2.2.2.2.2.2.2.2.2.2.2.2.2.1 v0.2.2.2.2.2.2.2.2.2.2.2.2.2.2.2.1 v0.2.2.2.2.2.2.2.2.2.2.2.2.2.2.2.2) (PB (fun u : ModV => wMod G a0 u.1 u.2.1 u.2.2.1 u.2.2.2.1 u.2.2.2.2.1 u.2.2.2.2.2.1 u.2.2.2.2.2.2.1 u.2.2.2.2.2.2.2.1 u.2.2.2.2.2.2.2.2.1 u.2.2.2.2.2.2.2.2.2.1 u.2.2.2.2.2.2.2.2.2.2.1 u.2.2.2.2.2.2.2.2.2.2.2.1 u.2.2.2.2.2.2.2.2.2.2.2.2.1 u.2.2.2.2.2.2.2.2.2.2.2.2.2.1 u.2.2.2.2.2.2.2.2.2.2.2.2.2.2.1 u.2.2.2.2.2.2.2.2.2.2.2.2.2.2.2.1 u.2.2.2.2.2.2.2.2.2.2.2.2.2.2.2.2) Q) 0 0 := by
  refine con_of RX9 rfl (by decide) [(0, .ref a0.1)] rfl (Nat.le_of_ble_eq_true rfl) ?_
  intro p e s m args below meth c S hname
  have L15 : ∀ (kk : Nat) (x1 : Int32) (w0 : ModV), wp_X9_readPad_L15 Q kk x1 w0 → V p l e { frames := 4, cells := 0, slots := 0, locals := 90 } s m args below meth c G (va_A (wMod G a0 v0.1 v0.2.1 v0.2.2.1 v0.2.2.2.1 v0.2.2.2.2.1 v0.2.2.2.2.2.1 v0.2.2.2.2.2.2.1 v0.2.2.2.2.2.2.2.1 v0.2.2.2.2.2.2.2.2.1 v0.2.2.2.2.2.2.2.2.2.1 v0.2.2.2.2.2.2.2.2.2.2.1 v0.2.2.2.2.2.2.2.2.2.2.2.1 v0.2.2.2.2.2.2.2.2.2.2.2.2.1 v0.2.2.2.2.2.2.2.2.2.2.2.2.2.1 v0.2.2.2.2.2.2.2.2.2.2.2.2.2.2.1 v0.2.2.2.2.2.2.2.2.2.2.2.2.2.2.2.1 v0.2.2.2.2.2.2.2.2.2.2.2.2.2.2.2.2) s.heap.size) 2 0 0 (MQ below (EQ G (wMod G a0 v0.1 v0.2.1 v0.2.2.1 v0.2.2.2.1 v0.2.2.2.2.1 v0.2.2.2.2.2.1 v0.2.2.2.2.2.2.1 v0.2.2.2.2.2.2.2.1 v0.2.2.2.2.2.2.2.2.1 v0.2.2.2.2.2.2.2.2.2.1 v0.2.2.2.2.2.2.2.2.2.2.1 v0.2.2.2.2.2.2.2.2.2.2.2.1 v0.2.2.2.2.2.2.2.2.2.2.2.2.1 v0.2.2.2.2.2.2.2.2.2.2.2.2.2.1 v0.2.2.2.2.2.2.2.2.2.2.2.2.2.2.1 v0.2.2.2.2.2.2.2.2.2.2.2.2.2.2.2.1 v0.2.2.2.2.2.2.2.2.2.2.2.2.2.2.2.2) s.heap.size (PB (fun u : ModV => wMod G a0 u.1 u.2.1 u.2.2.1 u.2.2.2.1 u.2.2.2.2.1 u.2.2.2.2.2.1 u.2.2.2.2.2.2.1 u.2.2.2.2.2.2.2.1 u.2.2.2.2.2.2.2.2.1 u.2.2.2.2.2.2.2.2.2.1 u.2.2.2.2.2.2.2.2.2.2.1 u.2.2.2.2.2.2.2.2.2.2.2.1 u.2.2.2.2.2.2.2.2.2.2.2.2.1 u.2.2.2.2.2.2.2.2.2.2.2.2.2.1 u.2.2.2.2.2.2.2.2.2.2.2.2.2.2.1 u.2.2.2.2.2.2.2.2.2.2.2.2.2.2.2.1 u.2.2.2.2.2.2.2.2.2.2.2.2.2.2.2.2) Q)) args s 0 0 (va_A (wMod G a0 v0.1 v0.2.1 v0.2.2.1 v0.2.2.2.1 v0.2.2.2.2.1 v0.2.2.2.2.2.1 v0.2.2.2.2.2.2.1 v0.2.2.2.2.2.2.2.1 v0.2.2.2.2.2.2.2.2.1 v0.2.2.2.2.2.2.2.2.2.1 v0.2.2.2.2.2.2.2.2.2.2.1 v0.2.2.2.2.2.2.2.2.2.2.2.1 v0.2.2.2.2.2.2.2.2.2.2.2.2.1 v0.2.2.2.2.2.2.2.2.2.2.2.2.2.1 v0.2.2.2.2.2.2.2.2.2.2.2.2.2.2.1 v0.2.2.2.2.2.2.2.2.2.2.2.2.2.2.2.1 v0.2.2.2.2.2.2.2.2.2.2.2.2.2.2.2.2) s.heap.size)) (wMod G a0 w0.1 w0.2.1 w0.2.2.1 w0.2.2.2.1 w0.2.2.2.2.1 w0.2.2.2.2.2.1 w0.2.2.2.2.2.2.1 w0.2.2.2.2.2.2.2.1 w0.2.2.2.2.2.2.2.2.1 w0.2.2.2.2.2.2.2.2.2.1 w0.2.2.2.2.2.2.2.2.2.2.1 w0.2.2.2.2.2.2.2.2.2.2.2.1 w0.2.2.2.2.2.2.2.2.2.2.2.2.1 w0.2.2.2.2.2.2.2.2.2.2.2.2.2.1 w0.2.2.2.2.2.2.2.2.2.2.2.2.2.2.1 w0.2.2.2.2.2.2.2.2.2.2.2.2.2.2.2.1 w0.2.2.2.2.2.2.2.2.2.2.2.2.2.2.2.2) 15 [(0, .ref a0.1), (1, .int x1)] [] := by
    intro kk
    induction kk with
    | zero => intro x1 w0 hw; exact hw.elim
    | succ n ih =>
      intro x1 w0 hw
      refine v_iload_n (pc2 := 16) S 1 dX9_readPad_15 rfl rfl rfl ?_
      refine v_if_eq (pc2 := 19) (tgt := 55) S dX9_readPad_16 (by decide) rfl (fun c3 => ?_) (fun c3 => ?_)
      · have hw := hw.1 c3
        refine v_iload_n (pc2 := 56) S 1 dX9_readPad_55 rfl rfl rfl ?_
        obtain ⟨hb, hw⟩ := hw
        exact v_zret S hb ⟨x1, w0, rfl, hb, rfl, hw⟩ dX9_readPad_56
      · have hw := hw.2 c3
        refine v_aload_n (pc2 := 20) S 0 dX9_readPad_19 rfl rfl rfl ?_
        refine v_get (v := .int w0.2.2.2.2.2.2.2.2.2.2.2.1) (pc2 := 23) S gf_X9_154 0 rfl rfl dX9_readPad_20 rfl ?_
        refine v_aload_n (pc2 := 24) S 0 dX9_readPad_23 rfl rfl rfl ?_
        refine v_get (v := .int w0.2.2.2.2.2.2.2.1) (pc2 := 27) S gf_X9_151 0 rfl rfl dX9_readPad_24 rfl ?_
        refine v_icmp_ge (pc2 := 30) (tgt := 55) S dX9_readPad_27 (by decide) rfl (fun c4 => ?_) (fun c4 => ?_)
        · have hw := hw.1 c4
          refine v_iload_n (pc2 := 56) S 1 dX9_readPad_55 rfl rfl rfl ?_
          obtain ⟨hb, hw⟩ := hw
          exact v_zret S hb ⟨x1, w0, rfl, hb, rfl, hw⟩ dX9_readPad_56
        · have hw := hw.2 c4
          refine v_aload_n (pc2 := 31) S 0 dX9_readPad_30 rfl rfl rfl ?_
          refine v_bipush (v := 59) (pc2 := 33) S dX9_readPad_31 (by decide) rfl ?_
          refine v_callV (pc2 := 36) (As := [.int (59 : Int32)]) (rest := []) S (c_X9_takes l G a0 w0 (59 : Int32) _ hw) mf_X9_takes u_1006 u_1008 u_46 0 9 rfl rfl rfl rfl ⟨rfl, rfl⟩ ⟨Nat.le_of_ble_eq_true rfl, Nat.le_of_ble_eq_true rfl⟩ ⟨Nat.le_of_ble_eq_true rfl, Nat.le_of_ble_eq_true rfl⟩ (Nat.le_of_ble_eq_true rfl) dX9_readPad_33 (frW _) rfl (pb (fun r5 u6 br5 hw => ?_))
          refine v_to (wMod G a0 u6.1 u6.2.1 u6.2.2.1 u6.2.2.2.1 u6.2.2.2.2.1 u6.2.2.2.2.2.1 u6.2.2.2.2.2.2.1 u6.2.2.2.2.2.2.2.1 u6.2.2.2.2.2.2.2.2.1 u6.2.2.2.2.2.2.2.2.2.1 u6.2.2.2.2.2.2.2.2.2.2.1 u6.2.2.2.2.2.2.2.2.2.2.2.1 u6.2.2.2.2.2.2.2.2.2.2.2.2.1 u6.2.2.2.2.2.2.2.2.2.2.2.2.2.1 u6.2.2.2.2.2.2.2.2.2.2.2.2.2.2.1 u6.2.2.2.2.2.2.2.2.2.2.2.2.2.2.2.1 u6.2.2.2.2.2.2.2.2.2.2.2.2.2.2.2.2) 36 [(0, .ref a0.1), (1, .int x1)] _ [.int r5] rfl rfl rfl rfl ?_
          refine v_if_eq (pc2 := 39) (tgt := 50) S dX9_readPad_36 (by decide) rfl (fun c7 => ?_) (fun c7 => ?_)
          · have hw := hw.1 c7
            refine v_iconst (v := 0) (pc2 := 51) S dX9_readPad_50 (by decide) rfl ?_
            refine v_istore_n (lv2 := [(0, .ref a0.1), (1, .int (0 : Int32))]) (pc2 := 52) S dX9_readPad_51 rfl (by decide) [1, 0] rfl rfl ?_
            refine v_goto (tgt := 15) S dX9_readPad_52 (by decide) ?_
            exact ih (0 : Int32) u6 hw
          · have hw := hw.2 c7
            refine v_aload_n (pc2 := 40) S 0 dX9_readPad_39 rfl rfl rfl ?_
            refine v_callV (pc2 := 43) (As := []) (rest := []) S (c_X9_readDeed l G a0 u6 _ hw) mf_X9_readDeed u_1002 u_1004 u_45 0 9 rfl rfl rfl rfl ⟨rfl, rfl⟩ ⟨Nat.le_of_ble_eq_true rfl, Nat.le_of_ble_eq_true rfl⟩ ⟨Nat.le_of_ble_eq_true rfl, Nat.le_of_ble_eq_true rfl⟩ (Nat.le_of_ble_eq_true rfl) dX9_readPad_40 (frW _) rfl (pb (fun r8 u9 br8 hw => ?_))
            refine v_to (wMod G a0 u9.1 u9.2.1 u9.2.2.1 u9.2.2.2.1 u9.2.2.2.2.1 u9.2.2.2.2.2.1 u9.2.2.2.2.2.2.1 u9.2.2.2.2.2.2.2.1 u9.2.2.2.2.2.2.2.2.1 u9.2.2.2.2.2.2.2.2.2.1 u9.2.2.2.2.2.2.2.2.2.2.1 u9.2.2.2.2.2.2.2.2.2.2.2.1 u9.2.2.2.2.2.2.2.2.2.2.2.2.1 u9.2.2.2.2.2.2.2.2.2.2.2.2.2.1 u9.2.2.2.2.2.2.2.2.2.2.2.2.2.2.1 u9.2.2.2.2.2.2.2.2.2.2.2.2.2.2.2.1 u9.2.2.2.2.2.2.2.2.2.2.2.2.2.2.2.2) 43 [(0, .ref a0.1), (1, .int x1)] _ [.int r8] rfl rfl rfl rfl ?_
            refine v_if_eq (pc2 := 46) (tgt := 50) S dX9_readPad_43 (by decide) rfl (fun c10 => ?_) (fun c10 => ?_)
            · have hw := hw.1 c10
              refine v_iconst (v := 0) (pc2 := 51) S dX9_readPad_50 (by decide) rfl ?_
              refine v_istore_n (lv2 := [(0, .ref a0.1), (1, .int (0 : Int32))]) (pc2 := 52) S dX9_readPad_51 rfl (by decide) [1, 0] rfl rfl ?_
              refine v_goto (tgt := 15) S dX9_readPad_52 (by decide) ?_
              exact ih (0 : Int32) u9 hw
            · have hw := hw.2 c10
              refine v_iconst (v := 1) (pc2 := 47) S dX9_readPad_46 (by decide) rfl ?_
              refine v_goto (tgt := 51) S dX9_readPad_47 (by decide) ?_
              refine v_istore_n (lv2 := [(0, .ref a0.1), (1, .int (1 : Int32))]) (pc2 := 52) S dX9_readPad_51 rfl (by decide) [1, 0] rfl rfl ?_
              refine v_goto (tgt := 15) S dX9_readPad_52 (by decide) ?_
              exact ih (1 : Int32) u9 hw
  refine v_aload_n (pc2 := 1) S 0 dX9_readPad_0 rfl rfl rfl ?_
  refine v_iconst (v := 0) (pc2 := 2) S dX9_readPad_1 (by decide) rfl ?_
  refine v_put (ws2 := wMod G a0 v0.1 v0.2.1 v0.2.2.1 v0.2.2.2.1 v0.2.2.2.2.1 v0.2.2.2.2.2.1 v0.2.2.2.2.2.2.1 v0.2.2.2.2.2.2.2.1 v0.2.2.2.2.2.2.2.2.1 v0.2.2.2.2.2.2.2.2.2.1 v0.2.2.2.2.2.2.2.2.2.2.1 (0 : Int32) v0.2.2.2.2.2.2.2.2.2.2.2.2.1 v0.2.2.2.2.2.2.2.2.2.2.2.2.2.1 v0.2.2.2.2.2.2.2.2.2.2.2.2.2.2.1 v0.2.2.2.2.2.2.2.2.2.2.2.2.2.2.2.1 v0.2.2.2.2.2.2.2.2.2.2.2.2.2.2.2.2) (pc2 := 5) S gf_X9_154 pf_X9_11 0 rfl rfl rfl (Nat.le_of_ble_eq_true rfl) rfl dX9_readPad_2 rfl ?_
  refine v_aload_n (pc2 := 6) S 0 dX9_readPad_5 rfl rfl rfl ?_
  refine v_iconst (v := 0) (pc2 := 7) S dX9_readPad_6 (by decide) rfl ?_
  refine v_put (ws2 := wMod G a0 v0.1 v0.2.1 v0.2.2.1 v0.2.2.2.1 v0.2.2.2.2.1 v0.2.2.2.2.2.1 v0.2.2.2.2.2.2.1 v0.2.2.2.2.2.2.2.1 v0.2.2.2.2.2.2.2.2.1 v0.2.2.2.2.2.2.2.2.2.1 v0.2.2.2.2.2.2.2.2.2.2.1 (0 : Int32) v0.2.2.2.2.2.2.2.2.2.2.2.2.1 (0 : Int32) v0.2.2.2.2.2.2.2.2.2.2.2.2.2.2.1 v0.2.2.2.2.2.2.2.2.2.2.2.2.2.2.2.1 v0.2.2.2.2.2.2.2.2.2.2.2.2.2.2.2.2) (pc2 := 10) S gf_X9_160 pf_X9_13 0 rfl rfl rfl (Nat.le_of_ble_eq_true rfl) rfl dX9_readPad_7 rfl ?_
  refine v_aload_n (pc2 := 11) S 0 dX9_readPad_10 rfl rfl rfl ?_
  refine v_callV (pc2 := 14) (As := []) (rest := []) S (c_X9_readDeed l G a0 (v0.1, v0.2.1, v0.2.2.1, v0.2.2.2.1, v0.2.2.2.2.1, v0.2.2.2.2.2.1, v0.2.2.2.2.2.2.1, v0.2.2.2.2.2.2.2.1, v0.2.2.2.2.2.2.2.2.1, v0.2.2.2.2.2.2.2.2.2.1, v0.2.2.2.2.2.2.2.2.2.2.1, (0 : Int32), v0.2.2.2.2.2.2.2.2.2.2.2.2.1, (0 : Int32), v0.2.2.2.2.2.2.2.2.2.2.2.2.2.2.1, v0.2.2.2.2.2.2.2.2.2.2.2.2.2.2.2.1, v0.2.2.2.2.2.2.2.2.2.2.2.2.2.2.2.2) _ hw) mf_X9_readDeed u_1002 u_1004 u_45 0 9 rfl rfl rfl rfl ⟨rfl, rfl⟩ ⟨Nat.le_of_ble_eq_true rfl, Nat.le_of_ble_eq_true rfl⟩ ⟨Nat.le_of_ble_eq_true rfl, Nat.le_of_ble_eq_true rfl⟩ (Nat.le_of_ble_eq_true rfl) dX9_readPad_11 (frW _) rfl (pb (fun r1 u2 br1 hw => ?_))
  refine v_to (wMod G a0 u2.1 u2.2.1 u2.2.2.1 u2.2.2.2.1 u2.2.2.2.2.1 u2.2.2.2.2.2.1 u2.2.2.2.2.2.2.1 u2.2.2.2.2.2.2.2.1 u2.2.2.2.2.2.2.2.2.1 u2.2.2.2.2.2.2.2.2.2.1 u2.2.2.2.2.2.2.2.2.2.2.1 u2.2.2.2.2.2.2.2.2.2.2.2.1 u2.2.2.2.2.2.2.2.2.2.2.2.2.1 u2.2.2.2.2.2.2.2.2.2.2.2.2.2.1 u2.2.2.2.2.2.2.2.2.2.2.2.2.2.2.1 u2.2.2.2.2.2.2.2.2.2.2.2.2.2.2.2.1 u2.2.2.2.2.2.2.2.2.2.2.2.2.2.2.2.2) 14 [(0, .ref a0.1)] _ [.int r1] rfl rfl rfl rfl ?_
  refine v_istore_n (lv2 := [(0, .ref a0.1), (1, .int r1)]) (pc2 := 15) S dX9_readPad_14 rfl (by decide) [1, 0] rfl rfl ?_
  obtain ⟨kk, hw⟩ := hw
  exact L15 kk r1 u2 hw
set_option maxHeartbeats 4000000 in
set_option maxRecDepth 100000 in
theorem c_X9_fault (l : Launch) (G : GG) (a0 : ModA) (v0 : ModV) (Q : Int32 → ModV → Prop) (hw : wp_X9_fault v0 Q) : Con l G yX9_fault cX9_fault 1 (some .int) { frames := 5, cells := 0, slots := 0, locals := 111 } [.ref a0.1] (wMod G a0 v0.1 v0.2.1 v0.2.2.1 v0.2.2.2.1 v0.2.2.2.2.1 v0.2.2.2.2.2.1 v0.2.2.2.2.2.2.1 v0.2.2.2.2.2.2.2.1 v0.2.2.2.2.2.2.2.2.1 v0.2.2.2.2.2.2.2.2.2.1 v0.2.2.2.2.2.2.2.2.2.2.1 v0.2.2.2.2.2.2.2.2.2.2.2.1 v0.2.2.2.2.2.2.2.2.2.2.2.2.1 v0.2.2.2.2.2.2.2.2.2.2.2.2.2.1 v0.2.2.2.2.2.2.2.2.2.2.2.2.2.2.1 v0.2.2.2.2.2.2.2.2.2.2.2.2.2.2.2.1 v0.2.2.2.2.2.2.2.2.2.2.2.2.2.2.2.2) (PI (fun u : ModV => wMod G a0 u.1 u.2.1 u.2.2.1 u.2.2.2.1 u.2.2.2.2.1 u.2.2.2.2.2.1 u.2.2.2.2.2.2.1 u.2.2.2.2.2.2.2.1 u.2.2.2.2.2.2.2.2.1 u.2.2.2.2.2.2.2.2.2.1 u.2.2.2.2.2.2.2.2.2.2.1 u.2.2.2.2.2.2.2.2.2.2.2.1 u.2.2.2.2.2.2.2.2.2.2.2.2.1 u.2.2.2.2.2.2.2.2.2.2.2.2.2.1 u.2.2.2.2.2.2.2.2.2.2.2.2.2.2.1 u.2.2.2.2.2.2.2.2.2.2.2.2.2.2.2.1 u.2.2.2.2.2.2.2.2.2.2.2.2.2.2.2.2) Q) 0 0 := by
  refine con_of RX9 rfl (by decide) [(0, .ref a0.1)] rfl (Nat.le_of_ble_eq_true rfl) ?_
  intro p e s m args below meth c S hname
  refine v_aload_n (pc2 := 1) S 0 dX9_fault_0 rfl rfl rfl ?_
  refine v_callV (pc2 := 4) (As := []) (rest := []) S (c_X9_readPad l G a0 v0 _ hw) mf_X9_readPad u_998 u_1000 u_44 0 9 rfl rfl rfl rfl ⟨rfl, rfl⟩ ⟨Nat.le_of_ble_eq_true rfl, Nat.le_of_ble_eq_true rfl⟩ ⟨Nat.le_of_ble_eq_true rfl, Nat.le_of_ble_eq_true rfl⟩ (Nat.le_of_ble_eq_true rfl) dX9_fault_1 (frW _) rfl (pb (fun r1 u2 br1 hw => ?_))
  refine v_to (wMod G a0 u2.1 u2.2.1 u2.2.2.1 u2.2.2.2.1 u2.2.2.2.2.1 u2.2.2.2.2.2.1 u2.2.2.2.2.2.2.1 u2.2.2.2.2.2.2.2.1 u2.2.2.2.2.2.2.2.2.1 u2.2.2.2.2.2.2.2.2.2.1 u2.2.2.2.2.2.2.2.2.2.2.1 u2.2.2.2.2.2.2.2.2.2.2.2.1 u2.2.2.2.2.2.2.2.2.2.2.2.2.1 u2.2.2.2.2.2.2.2.2.2.2.2.2.2.1 u2.2.2.2.2.2.2.2.2.2.2.2.2.2.2.1 u2.2.2.2.2.2.2.2.2.2.2.2.2.2.2.2.1 u2.2.2.2.2.2.2.2.2.2.2.2.2.2.2.2.2) 4 [(0, .ref a0.1)] _ [.int r1] rfl rfl rfl rfl ?_
  refine v_if_eq (pc2 := 7) (tgt := 12) S dX9_fault_4 (by decide) rfl (fun c3 => ?_) (fun c3 => ?_)
  · have hw := hw.1 c3
    refine v_aload_n (pc2 := 13) S 0 dX9_fault_12 rfl rfl rfl ?_
    refine v_get (v := .int u2.2.2.2.2.2.2.2.2.2.2.2.1) (pc2 := 16) S gf_X9_154 0 rfl rfl dX9_fault_13 rfl ?_
    exact v_iret S ⟨u2.2.2.2.2.2.2.2.2.2.2.2.1, u2, rfl, rfl, hw⟩ dX9_fault_16
  · have hw := hw.2 c3
    refine v_bipush (v := -4) (pc2 := 9) S dX9_fault_7 (by decide) rfl ?_
    refine v_goto (tgt := 16) S dX9_fault_9 (by decide) ?_
    exact v_iret S ⟨(-4 : Int32), u2, rfl, rfl, hw⟩ dX9_fault_16
set_option maxHeartbeats 4000000 in
set_option maxRecDepth 100000 in
theorem c_X9_doDeed (l : Launch) (G : GG) (a0 : ModA) (v0 : ModV) (i0 : Int32) (Q : Int32 → ModV → Prop) (hw : wp_X9_doDeed v0 i0 Q) : Con l G yX9_doDeed cX9_doDeed 4 (some .int) { frames := 6, cells := 0, slots := 0, locals := 135 } [.ref a0.1, .int i0] (wMod G a0 v0.1 v0.2.1 v0.2.2.1 v0.2.2.2.1 v0.2.2.2.2.1 v0.2.2.2.2.2.1 v0.2.2.2.2.2.2.1 v0.2.2.2.2.2.2.2.1 v0.2.2.2.2.2.2.2.2.1 v0.2.2.2.2.2.2.2.2.2.1 v0.2.2.2.2.2.2.2.2.2.2.1 v0.2.2.2.2.2.2.2.2.2.2.2.1 v0.2.2.2.2.2.2.2.2.2.2.2.2.1 v0.2.2.2.2.2.2.2.2.2.2.2.2.2.1 v0.2.2.2.2.2.2.2.2.2.2.2.2.2.2.1 v0.2.2.2.2.2.2.2.2.2.2.2.2.2.2.2.1 v0.2.2.2.2.2.2.2.2.2.2.2.2.2.2.2.2) (PI (fun u : ModV => wMod G a0 u.1 u.2.1 u.2.2.1 u.2.2.2.1 u.2.2.2.2.1 u.2.2.2.2.2.1 u.2.2.2.2.2.2.1 u.2.2.2.2.2.2.2.1 u.2.2.2.2.2.2.2.2.1 u.2.2.2.2.2.2.2.2.2.1 u.2.2.2.2.2.2.2.2.2.2.1 u.2.2.2.2.2.2.2.2.2.2.2.1 u.2.2.2.2.2.2.2.2.2.2.2.2.1 u.2.2.2.2.2.2.2.2.2.2.2.2.2.1 u.2.2.2.2.2.2.2.2.2.2.2.2.2.2.1 u.2.2.2.2.2.2.2.2.2.2.2.2.2.2.2.1 u.2.2.2.2.2.2.2.2.2.2.2.2.2.2.2.2) Q) 0 0 := by
  refine con_of RX9 rfl (by decide) [(0, .ref a0.1), (1, .int i0)] rfl (Nat.le_of_ble_eq_true rfl) ?_
  intro p e s m args below meth c S hname
  refine v_aload_n (pc2 := 1) S 0 dX9_doDeed_0 rfl rfl rfl ?_
  refine v_get (v := .ref a0.2.2.2.2.2.2.1) (pc2 := 4) S gf_X9_35 0 rfl rfl dX9_doDeed_1 rfl ?_
  refine v_iconst (v := 4) (pc2 := 5) S dX9_doDeed_4 (by decide) rfl ?_
  refine v_iload_n (pc2 := 6) S 1 dX9_doDeed_5 rfl rfl rfl ?_
  refine v_imul (pc2 := 7) S dX9_doDeed_6 rfl ?_
  refine v_iconst (v := 2) (pc2 := 8) S dX9_doDeed_7 (by decide) rfl ?_
  refine v_iadd (pc2 := 9) S dX9_doDeed_8 rfl ?_
  obtain ⟨h1, hw⟩ := hw
  refine v_iald (pc2 := 10) S 6 rfl h1 dX9_doDeed_9 rfl ?_
  refine v_nm (fun z2 ez2 => ?_)
  have hw := hw z2 ez2
  refine v_istore_n (lv2 := [(0, .ref a0.1), (1, .int i0), (2, .int z2)]) (pc2 := 11) S dX9_doDeed_10 rfl (by decide) [1, 2, 0] rfl rfl ?_
  refine v_aload_n (pc2 := 12) S 0 dX9_doDeed_11 rfl rfl rfl ?_
  refine v_get (v := .ref a0.2.2.2.2.2.2.1) (pc2 := 15) S gf_X9_35 0 rfl rfl dX9_doDeed_12 rfl ?_
  refine v_iconst (v := 4) (pc2 := 16) S dX9_doDeed_15 (by decide) rfl ?_
  refine v_iload_n (pc2 := 17) S 1 dX9_doDeed_16 rfl rfl rfl ?_
  refine v_imul (pc2 := 18) S dX9_doDeed_17 rfl ?_
  refine v_iconst (v := 3) (pc2 := 19) S dX9_doDeed_18 (by decide) rfl ?_
  refine v_iadd (pc2 := 20) S dX9_doDeed_19 rfl ?_
  obtain ⟨h3, hw⟩ := hw
  refine v_iald (pc2 := 21) S 6 rfl h3 dX9_doDeed_20 rfl ?_
  refine v_nm (fun z4 ez4 => ?_)
  have hw := hw z4 ez4
  refine v_istore_n (lv2 := [(0, .ref a0.1), (1, .int i0), (2, .int z2), (3, .int z4)]) (pc2 := 22) S dX9_doDeed_21 rfl (by decide) [1, 2, 3, 0] rfl rfl ?_
  refine v_aload_n (pc2 := 23) S 0 dX9_doDeed_22 rfl rfl rfl ?_
  refine v_get (v := .ref a0.2.2.2.2.2.2.1) (pc2 := 26) S gf_X9_35 0 rfl rfl dX9_doDeed_23 rfl ?_
  refine v_iconst (v := 4) (pc2 := 27) S dX9_doDeed_26 (by decide) rfl ?_
  refine v_iload_n (pc2 := 28) S 1 dX9_doDeed_27 rfl rfl rfl ?_
  refine v_imul (pc2 := 29) S dX9_doDeed_28 rfl ?_
  refine v_iconst (v := 1) (pc2 := 30) S dX9_doDeed_29 (by decide) rfl ?_
  refine v_iadd (pc2 := 31) S dX9_doDeed_30 rfl ?_
  obtain ⟨h5, hw⟩ := hw
  refine v_iald (pc2 := 32) S 6 rfl h5 dX9_doDeed_31 rfl ?_
  refine v_nm (fun z6 ez6 => ?_)
  have hw := hw z6 ez6
  by_cases c7 : z6 = (99 : Int32)
  · have hw := hw.1 c7
    refine v_lookup (off := 49) (tgt := 81) S dX9_doDeed_32 (by decide) (by rw [c7]; decide) (by decide) ?_
    refine v_iload_n (pc2 := 82) S 2 dX9_doDeed_81 rfl rfl rfl ?_
    refine v_bipush (v := -4) (pc2 := 84) S dX9_doDeed_82 (by decide) rfl ?_
    refine v_icmp_ne (pc2 := 87) (tgt := 95) S dX9_doDeed_84 (by decide) rfl (fun c8 => ?_) (fun c8 => ?_)
    · have hw := hw.1 c8
      refine v_aload_n (pc2 := 96) S 0 dX9_doDeed_95 rfl rfl rfl ?_
      refine v_iload_n (pc2 := 97) S 2 dX9_doDeed_96 rfl rfl rfl ?_
      refine v_iload_n (pc2 := 98) S 3 dX9_doDeed_97 rfl rfl rfl ?_
      refine v_callV (pc2 := 101) (As := [.int z2, .int z4]) (rest := []) S (c_X9_guestShutsNow l G a0 v0 z2 z4 _ hw) mf_X9_guestShutsNow u_943 u_945 u_39 0 9 rfl rfl rfl rfl ⟨rfl, rfl⟩ ⟨Nat.le_of_ble_eq_true rfl, Nat.le_of_ble_eq_true rfl⟩ ⟨Nat.le_of_ble_eq_true rfl, Nat.le_of_ble_eq_true rfl⟩ (Nat.le_of_ble_eq_true rfl) dX9_doDeed_98 (frW _) rfl (pi (fun r9 u10 hw => ?_))
      refine v_to (wMod G a0 u10.1 u10.2.1 u10.2.2.1 u10.2.2.2.1 u10.2.2.2.2.1 u10.2.2.2.2.2.1 u10.2.2.2.2.2.2.1 u10.2.2.2.2.2.2.2.1 u10.2.2.2.2.2.2.2.2.1 u10.2.2.2.2.2.2.2.2.2.1 u10.2.2.2.2.2.2.2.2.2.2.1 u10.2.2.2.2.2.2.2.2.2.2.2.1 u10.2.2.2.2.2.2.2.2.2.2.2.2.1 u10.2.2.2.2.2.2.2.2.2.2.2.2.2.1 u10.2.2.2.2.2.2.2.2.2.2.2.2.2.2.1 u10.2.2.2.2.2.2.2.2.2.2.2.2.2.2.2.1 u10.2.2.2.2.2.2.2.2.2.2.2.2.2.2.2.2) 101 [(0, .ref a0.1), (1, .int i0), (2, .int z2), (3, .int z4)] _ [.int r9] rfl rfl rfl rfl ?_
      exact v_iret S ⟨r9, u10, rfl, rfl, hw⟩ dX9_doDeed_101
    · have hw := hw.2 c8
      refine v_aload_n (pc2 := 88) S 0 dX9_doDeed_87 rfl rfl rfl ?_
      refine v_iload_n (pc2 := 89) S 3 dX9_doDeed_88 rfl rfl rfl ?_
      refine v_callV (pc2 := 92) (As := [.int z4]) (rest := []) S (c_X9_shutNow l G a0 v0 z4 _ hw) mf_X9_shutNow u_912 u_914 u_34 0 9 rfl rfl rfl rfl ⟨rfl, rfl⟩ ⟨Nat.le_of_ble_eq_true rfl, Nat.le_of_ble_eq_true rfl⟩ ⟨Nat.le_of_ble_eq_true rfl, Nat.le_of_ble_eq_true rfl⟩ (Nat.le_of_ble_eq_true rfl) dX9_doDeed_89 (frW _) rfl (pi (fun r11 u12 hw => ?_))
      refine v_to (wMod G a0 u12.1 u12.2.1 u12.2.2.1 u12.2.2.2.1 u12.2.2.2.2.1 u12.2.2.2.2.2.1 u12.2.2.2.2.2.2.1 u12.2.2.2.2.2.2.2.1 u12.2.2.2.2.2.2.2.2.1 u12.2.2.2.2.2.2.2.2.2.1 u12.2.2.2.2.2.2.2.2.2.2.1 u12.2.2.2.2.2.2.2.2.2.2.2.1 u12.2.2.2.2.2.2.2.2.2.2.2.2.1 u12.2.2.2.2.2.2.2.2.2.2.2.2.2.1 u12.2.2.2.2.2.2.2.2.2.2.2.2.2.2.1 u12.2.2.2.2.2.2.2.2.2.2.2.2.2.2.2.1 u12.2.2.2.2.2.2.2.2.2.2.2.2.2.2.2.2) 92 [(0, .ref a0.1), (1, .int i0), (2, .int z2), (3, .int z4)] _ [.int r11] rfl rfl rfl rfl ?_
      refine v_goto (tgt := 101) S dX9_doDeed_92 (by decide) ?_
      exact v_iret S ⟨r11, u12, rfl, rfl, hw⟩ dX9_doDeed_101
  · have hw := hw.2
    by_cases c13 : z6 = (111 : Int32)
    · have hw := hw.1 c13
      refine v_lookup (off := 28) (tgt := 60) S dX9_doDeed_32 (by decide) (by rw [c13]; decide) (by decide) ?_
      refine v_iload_n (pc2 := 61) S 2 dX9_doDeed_60 rfl rfl rfl ?_
      refine v_bipush (v := -4) (pc2 := 63) S dX9_doDeed_61 (by decide) rfl ?_
      refine v_icmp_ne (pc2 := 66) (tgt := 74) S dX9_doDeed_63 (by decide) rfl (fun c14 => ?_) (fun c14 => ?_)
      · have hw := hw.1 c14
        refine v_aload_n (pc2 := 75) S 0 dX9_doDeed_74 rfl rfl rfl ?_
        refine v_iload_n (pc2 := 76) S 2 dX9_doDeed_75 rfl rfl rfl ?_
        refine v_iload_n (pc2 := 77) S 3 dX9_doDeed_76 rfl rfl rfl ?_
        refine v_callV (pc2 := 80) (As := [.int z2, .int z4]) (rest := []) S (c_X9_guestOpensNow l G a0 v0 z2 z4 _ hw) mf_X9_guestOpensNow u_923 u_925 u_35 0 9 rfl rfl rfl rfl ⟨rfl, rfl⟩ ⟨Nat.le_of_ble_eq_true rfl, Nat.le_of_ble_eq_true rfl⟩ ⟨Nat.le_of_ble_eq_true rfl, Nat.le_of_ble_eq_true rfl⟩ (Nat.le_of_ble_eq_true rfl) dX9_doDeed_77 (frW _) rfl (pi (fun r15 u16 hw => ?_))
        refine v_to (wMod G a0 u16.1 u16.2.1 u16.2.2.1 u16.2.2.2.1 u16.2.2.2.2.1 u16.2.2.2.2.2.1 u16.2.2.2.2.2.2.1 u16.2.2.2.2.2.2.2.1 u16.2.2.2.2.2.2.2.2.1 u16.2.2.2.2.2.2.2.2.2.1 u16.2.2.2.2.2.2.2.2.2.2.1 u16.2.2.2.2.2.2.2.2.2.2.2.1 u16.2.2.2.2.2.2.2.2.2.2.2.2.1 u16.2.2.2.2.2.2.2.2.2.2.2.2.2.1 u16.2.2.2.2.2.2.2.2.2.2.2.2.2.2.1 u16.2.2.2.2.2.2.2.2.2.2.2.2.2.2.2.1 u16.2.2.2.2.2.2.2.2.2.2.2.2.2.2.2.2) 80 [(0, .ref a0.1), (1, .int i0), (2, .int z2), (3, .int z4)] _ [.int r15] rfl rfl rfl rfl ?_
        exact v_iret S ⟨r15, u16, rfl, rfl, hw⟩ dX9_doDeed_80
      · have hw := hw.2 c14
        refine v_aload_n (pc2 := 67) S 0 dX9_doDeed_66 rfl rfl rfl ?_
        refine v_iload_n (pc2 := 68) S 3 dX9_doDeed_67 rfl rfl rfl ?_
        refine v_callV (pc2 := 71) (As := [.int z4]) (rest := []) S (c_X9_openNow l G a0 v0 z4 _ hw) mf_X9_openNow u_864 u_866 u_23 0 9 rfl rfl rfl rfl ⟨rfl, rfl⟩ ⟨Nat.le_of_ble_eq_true rfl, Nat.le_of_ble_eq_true rfl⟩ ⟨Nat.le_of_ble_eq_true rfl, Nat.le_of_ble_eq_true rfl⟩ (Nat.le_of_ble_eq_true rfl) dX9_doDeed_68 (frW _) rfl (pi (fun r17 u18 hw => ?_))
        refine v_to (wMod G a0 u18.1 u18.2.1 u18.2.2.1 u18.2.2.2.1 u18.2.2.2.2.1 u18.2.2.2.2.2.1 u18.2.2.2.2.2.2.1 u18.2.2.2.2.2.2.2.1 u18.2.2.2.2.2.2.2.2.1 u18.2.2.2.2.2.2.2.2.2.1 u18.2.2.2.2.2.2.2.2.2.2.1 u18.2.2.2.2.2.2.2.2.2.2.2.1 u18.2.2.2.2.2.2.2.2.2.2.2.2.1 u18.2.2.2.2.2.2.2.2.2.2.2.2.2.1 u18.2.2.2.2.2.2.2.2.2.2.2.2.2.2.1 u18.2.2.2.2.2.2.2.2.2.2.2.2.2.2.2.1 u18.2.2.2.2.2.2.2.2.2.2.2.2.2.2.2.2) 71 [(0, .ref a0.1), (1, .int i0), (2, .int z2), (3, .int z4)] _ [.int r17] rfl rfl rfl rfl ?_
        refine v_goto (tgt := 80) S dX9_doDeed_71 (by decide) ?_
        exact v_iret S ⟨r17, u18, rfl, rfl, hw⟩ dX9_doDeed_80
    · have hw := hw.2
      have hw := hw c7 c13
      refine v_lookup (off := 70) (tgt := 102) S dX9_doDeed_32 (by decide) (lk_out99_111 c7 c13) (by decide) ?_
      refine v_aload_n (pc2 := 103) S 0 dX9_doDeed_102 rfl rfl rfl ?_
      refine v_iload_n (pc2 := 104) S 2 dX9_doDeed_103 rfl rfl rfl ?_
      refine v_iload_n (pc2 := 105) S 3 dX9_doDeed_104 rfl rfl rfl ?_
      refine v_callV (pc2 := 108) (As := [.int z2, .int z4]) (rest := []) S (c_X9_walkNow l G a0 v0 z2 z4 _ hw) mf_X9_walkNow u_951 u_953 u_40 0 9 rfl rfl rfl rfl ⟨rfl, rfl⟩ ⟨Nat.le_of_ble_eq_true rfl, Nat.le_of_ble_eq_true rfl⟩ ⟨Nat.le_of_ble_eq_true rfl, Nat.le_of_ble_eq_true rfl⟩ (Nat.le_of_ble_eq_true rfl) dX9_doDeed_105 (frW _) rfl (pi (fun r19 u20 hw => ?_))
      refine v_to (wMod G a0 u20.1 u20.2.1 u20.2.2.1 u20.2.2.2.1 u20.2.2.2.2.1 u20.2.2.2.2.2.1 u20.2.2.2.2.2.2.1 u20.2.2.2.2.2.2.2.1 u20.2.2.2.2.2.2.2.2.1 u20.2.2.2.2.2.2.2.2.2.1 u20.2.2.2.2.2.2.2.2.2.2.1 u20.2.2.2.2.2.2.2.2.2.2.2.1 u20.2.2.2.2.2.2.2.2.2.2.2.2.1 u20.2.2.2.2.2.2.2.2.2.2.2.2.2.1 u20.2.2.2.2.2.2.2.2.2.2.2.2.2.2.1 u20.2.2.2.2.2.2.2.2.2.2.2.2.2.2.2.1 u20.2.2.2.2.2.2.2.2.2.2.2.2.2.2.2.2) 108 [(0, .ref a0.1), (1, .int i0), (2, .int z2), (3, .int z4)] _ [.int r19] rfl rfl rfl rfl ?_
      exact v_iret S ⟨r19, u20, rfl, rfl, hw⟩ dX9_doDeed_108
set_option maxHeartbeats 4000000 in
set_option maxRecDepth 100000 in
theorem c_X9_run (l : Launch) (G : GG) (a0 : ModA) (v0 : ModV) (Q : Int32 → ModV → Prop) (hw : wp_X9_run v0 Q) : Con l G yX9_run cX9_run 3 (some .int) { frames := 7, cells := 0, slots := 0, locals := 158 } [.ref a0.1] (wMod G a0 v0.1 v0.2.1 v0.2.2.1 v0.2.2.2.1 v0.2.2.2.2.1 v0.2.2.2.2.2.1 v0.2.2.2.2.2.2.1 v0.2.2.2.2.2.2.2.1 v0.2.2.2.2.2.2.2.2.1 v0.2.2.2.2.2.2.2.2.2.1 v0.2.2.2.2.2.2.2.2.2.2.1 v0.2.2.2.2.2.2.2.2.2.2.2.1 v0.2.2.2.2.2.2.2.2.2.2.2.2.1 v0.2.2.2.2.2.2.2.2.2.2.2.2.2.1 v0.2.2.2.2.2.2.2.2.2.2.2.2.2.2.1 v0.2.2.2.2.2.2.2.2.2.2.2.2.2.2.2.1 v0.2.2.2.2.2.2.2.2.2.2.2.2.2.2.2.2) (PI (fun u : ModV => wMod G a0 u.1 u.2.1 u.2.2.1 u.2.2.2.1 u.2.2.2.2.1 u.2.2.2.2.2.1 u.2.2.2.2.2.2.1 u.2.2.2.2.2.2.2.1 u.2.2.2.2.2.2.2.2.1 u.2.2.2.2.2.2.2.2.2.1 u.2.2.2.2.2.2.2.2.2.2.1 u.2.2.2.2.2.2.2.2.2.2.2.1 u.2.2.2.2.2.2.2.2.2.2.2.2.1 u.2.2.2.2.2.2.2.2.2.2.2.2.2.1 u.2.2.2.2.2.2.2.2.2.2.2.2.2.2.1 u.2.2.2.2.2.2.2.2.2.2.2.2.2.2.2.1 u.2.2.2.2.2.2.2.2.2.2.2.2.2.2.2.2) Q) 0 0 := by
  refine con_of RX9 rfl (by decide) [(0, .ref a0.1)] rfl (Nat.le_of_ble_eq_true rfl) ?_
  intro p e s m args below meth c S hname
  have L39 : ∀ (kk : Nat) (x1 : Int32) (w0 : ModV), wp_X9_run_L39 Q kk x1 w0 → V p l e { frames := 7, cells := 0, slots := 0, locals := 158 } s m args below meth c G (va_A (wMod G a0 v0.1 v0.2.1 v0.2.2.1 v0.2.2.2.1 v0.2.2.2.2.1 v0.2.2.2.2.2.1 v0.2.2.2.2.2.2.1 v0.2.2.2.2.2.2.2.1 v0.2.2.2.2.2.2.2.2.1 v0.2.2.2.2.2.2.2.2.2.1 v0.2.2.2.2.2.2.2.2.2.2.1 v0.2.2.2.2.2.2.2.2.2.2.2.1 v0.2.2.2.2.2.2.2.2.2.2.2.2.1 v0.2.2.2.2.2.2.2.2.2.2.2.2.2.1 v0.2.2.2.2.2.2.2.2.2.2.2.2.2.2.1 v0.2.2.2.2.2.2.2.2.2.2.2.2.2.2.2.1 v0.2.2.2.2.2.2.2.2.2.2.2.2.2.2.2.2) s.heap.size) 3 0 0 (MQ below (EQ G (wMod G a0 v0.1 v0.2.1 v0.2.2.1 v0.2.2.2.1 v0.2.2.2.2.1 v0.2.2.2.2.2.1 v0.2.2.2.2.2.2.1 v0.2.2.2.2.2.2.2.1 v0.2.2.2.2.2.2.2.2.1 v0.2.2.2.2.2.2.2.2.2.1 v0.2.2.2.2.2.2.2.2.2.2.1 v0.2.2.2.2.2.2.2.2.2.2.2.1 v0.2.2.2.2.2.2.2.2.2.2.2.2.1 v0.2.2.2.2.2.2.2.2.2.2.2.2.2.1 v0.2.2.2.2.2.2.2.2.2.2.2.2.2.2.1 v0.2.2.2.2.2.2.2.2.2.2.2.2.2.2.2.1 v0.2.2.2.2.2.2.2.2.2.2.2.2.2.2.2.2) s.heap.size (PI (fun u : ModV => wMod G a0 u.1 u.2.1 u.2.2.1 u.2.2.2.1 u.2.2.2.2.1 u.2.2.2.2.2.1 u.2.2.2.2.2.2.1 u.2.2.2.2.2.2.2.1 u.2.2.2.2.2.2.2.2.1 u.2.2.2.2.2.2.2.2.2.1 u.2.2.2.2.2.2.2.2.2.2.1 u.2.2.2.2.2.2.2.2.2.2.2.1 u.2.2.2.2.2.2.2.2.2.2.2.2.1 u.2.2.2.2.2.2.2.2.2.2.2.2.2.1 u.2.2.2.2.2.2.2.2.2.2.2.2.2.2.1 u.2.2.2.2.2.2.2.2.2.2.2.2.2.2.2.1 u.2.2.2.2.2.2.2.2.2.2.2.2.2.2.2.2) Q)) args s 0 0 (va_A (wMod G a0 v0.1 v0.2.1 v0.2.2.1 v0.2.2.2.1 v0.2.2.2.2.1 v0.2.2.2.2.2.1 v0.2.2.2.2.2.2.1 v0.2.2.2.2.2.2.2.1 v0.2.2.2.2.2.2.2.2.1 v0.2.2.2.2.2.2.2.2.2.1 v0.2.2.2.2.2.2.2.2.2.2.1 v0.2.2.2.2.2.2.2.2.2.2.2.1 v0.2.2.2.2.2.2.2.2.2.2.2.2.1 v0.2.2.2.2.2.2.2.2.2.2.2.2.2.1 v0.2.2.2.2.2.2.2.2.2.2.2.2.2.2.1 v0.2.2.2.2.2.2.2.2.2.2.2.2.2.2.2.1 v0.2.2.2.2.2.2.2.2.2.2.2.2.2.2.2.2) s.heap.size)) (wMod G a0 w0.1 w0.2.1 w0.2.2.1 w0.2.2.2.1 w0.2.2.2.2.1 w0.2.2.2.2.2.1 w0.2.2.2.2.2.2.1 w0.2.2.2.2.2.2.2.1 w0.2.2.2.2.2.2.2.2.1 w0.2.2.2.2.2.2.2.2.2.1 w0.2.2.2.2.2.2.2.2.2.2.1 w0.2.2.2.2.2.2.2.2.2.2.2.1 w0.2.2.2.2.2.2.2.2.2.2.2.2.1 w0.2.2.2.2.2.2.2.2.2.2.2.2.2.1 w0.2.2.2.2.2.2.2.2.2.2.2.2.2.2.1 w0.2.2.2.2.2.2.2.2.2.2.2.2.2.2.2.1 w0.2.2.2.2.2.2.2.2.2.2.2.2.2.2.2.2) 39 [(0, .ref a0.1), (1, .int x1)] [] := by
    intro kk
    induction kk with
    | zero => intro x1 w0 hw; exact hw.elim
    | succ n ih =>
      intro x1 w0 hw
      refine v_iload_n (pc2 := 40) S 1 dX9_run_39 rfl rfl rfl ?_
      refine v_aload_n (pc2 := 41) S 0 dX9_run_40 rfl rfl rfl ?_
      refine v_get (v := .int w0.2.2.2.2.2.2.2.2.2.2.2.2.2.1) (pc2 := 44) S gf_X9_160 0 rfl rfl dX9_run_41 rfl ?_
      refine v_icmp_ge (pc2 := 47) (tgt := 89) S dX9_run_44 (by decide) rfl (fun c6 => ?_) (fun c6 => ?_)
      · have hw := hw.1 c6
        refine v_aload_n (pc2 := 90) S 0 dX9_run_89 rfl rfl rfl ?_
        refine v_get (v := .int w0.2.2.2.2.2.2.2.2.2.2.2.2.2.1) (pc2 := 93) S gf_X9_160 0 rfl rfl dX9_run_90 rfl ?_
        exact v_iret S ⟨w0.2.2.2.2.2.2.2.2.2.2.2.2.2.1, w0, rfl, rfl, hw⟩ dX9_run_93
      · have hw := hw.2 c6
        refine v_aload_n (pc2 := 48) S 0 dX9_run_47 rfl rfl rfl ?_
        refine v_iload_n (pc2 := 49) S 1 dX9_run_48 rfl rfl rfl ?_
        refine v_callV (pc2 := 52) (As := [.int x1]) (rest := []) S (c_X9_doDeed l G a0 w0 x1 _ hw) mf_X9_doDeed u_1022 u_1024 u_49 0 9 rfl rfl rfl rfl ⟨rfl, rfl⟩ ⟨Nat.le_of_ble_eq_true rfl, Nat.le_of_ble_eq_true rfl⟩ ⟨Nat.le_of_ble_eq_true rfl, Nat.le_of_ble_eq_true rfl⟩ (Nat.le_of_ble_eq_true rfl) dX9_run_49 (frW _) rfl (pi (fun r7 u8 hw => ?_))
        refine v_to (wMod G a0 u8.1 u8.2.1 u8.2.2.1 u8.2.2.2.1 u8.2.2.2.2.1 u8.2.2.2.2.2.1 u8.2.2.2.2.2.2.1 u8.2.2.2.2.2.2.2.1 u8.2.2.2.2.2.2.2.2.1 u8.2.2.2.2.2.2.2.2.2.1 u8.2.2.2.2.2.2.2.2.2.2.1 u8.2.2.2.2.2.2.2.2.2.2.2.1 u8.2.2.2.2.2.2.2.2.2.2.2.2.1 u8.2.2.2.2.2.2.2.2.2.2.2.2.2.1 u8.2.2.2.2.2.2.2.2.2.2.2.2.2.2.1 u8.2.2.2.2.2.2.2.2.2.2.2.2.2.2.2.1 u8.2.2.2.2.2.2.2.2.2.2.2.2.2.2.2.2) 52 [(0, .ref a0.1), (1, .int x1)] _ [.int r7] rfl rfl rfl rfl ?_
        refine v_istore_n (lv2 := [(0, .ref a0.1), (1, .int x1), (2, .int r7)]) (pc2 := 53) S dX9_run_52 rfl (by decide) [1, 2, 0] rfl rfl ?_
        refine v_iload_n (pc2 := 54) S 2 dX9_run_53 rfl rfl rfl ?_
        refine v_bipush (v := 10) (pc2 := 56) S dX9_run_54 (by decide) rfl ?_
        refine v_icmp_ge (pc2 := 59) (tgt := 83) S dX9_run_56 (by decide) rfl (fun c9 => ?_) (fun c9 => ?_)
        · have hw := hw.1 c9
          obtain ⟨z10, ez10⟩ : ∃ y : Int32, y = x1 + (1 : Int32) := ⟨_, rfl⟩
          have hw := hw z10 ez10
          refine v_iinc (v := z10) (lv2 := [(0, .ref a0.1), (1, .int z10), (2, .int r7)]) (pc2 := 86) S 1 dX9_run_83 rfl (by rw [ez10]; rfl) (by decide) [1, 0, 2] rfl rfl ?_
          refine v_goto (tgt := 39) S dX9_run_86 (by decide) ?_
          refine v_lv [(0, .ref a0.1), (1, .int z10)] [0, 1] rfl ?_
          exact ih z10 u8 hw
        · have hw := hw.2 c9
          refine v_aload_n (pc2 := 60) S 0 dX9_run_59 rfl rfl rfl ?_
          refine v_iload_n (pc2 := 61) S 2 dX9_run_60 rfl rfl rfl ?_
          refine v_put (ws2 := wMod G a0 u8.1 u8.2.1 u8.2.2.1 u8.2.2.2.1 u8.2.2.2.2.1 u8.2.2.2.2.2.1 u8.2.2.2.2.2.2.1 u8.2.2.2.2.2.2.2.1 r7 u8.2.2.2.2.2.2.2.2.2.1 u8.2.2.2.2.2.2.2.2.2.2.1 u8.2.2.2.2.2.2.2.2.2.2.2.1 u8.2.2.2.2.2.2.2.2.2.2.2.2.1 u8.2.2.2.2.2.2.2.2.2.2.2.2.2.1 u8.2.2.2.2.2.2.2.2.2.2.2.2.2.2.1 u8.2.2.2.2.2.2.2.2.2.2.2.2.2.2.2.1 u8.2.2.2.2.2.2.2.2.2.2.2.2.2.2.2.2) (pc2 := 64) S gf_X9_25 pf_X9_8 0 rfl rfl rfl (Nat.le_of_ble_eq_true rfl) rfl dX9_run_61 rfl ?_
          refine v_aload_n (pc2 := 65) S 0 dX9_run_64 rfl rfl rfl ?_
          refine v_iload_n (pc2 := 66) S 1 dX9_run_65 rfl rfl rfl ?_
          refine v_put (ws2 := wMod G a0 u8.1 u8.2.1 u8.2.2.1 u8.2.2.2.1 u8.2.2.2.2.1 u8.2.2.2.2.2.1 u8.2.2.2.2.2.2.1 u8.2.2.2.2.2.2.2.1 r7 x1 u8.2.2.2.2.2.2.2.2.2.2.1 u8.2.2.2.2.2.2.2.2.2.2.2.1 u8.2.2.2.2.2.2.2.2.2.2.2.2.1 u8.2.2.2.2.2.2.2.2.2.2.2.2.2.1 u8.2.2.2.2.2.2.2.2.2.2.2.2.2.2.1 u8.2.2.2.2.2.2.2.2.2.2.2.2.2.2.2.1 u8.2.2.2.2.2.2.2.2.2.2.2.2.2.2.2.2) (pc2 := 69) S gf_X9_29 pf_X9_9 0 rfl rfl rfl (Nat.le_of_ble_eq_true rfl) rfl dX9_run_66 rfl ?_
          refine v_aload_n (pc2 := 70) S 0 dX9_run_69 rfl rfl rfl ?_
          refine v_aload_n (pc2 := 71) S 0 dX9_run_70 rfl rfl rfl ?_
          refine v_get (v := .ref a0.2.2.2.2.2.2.1) (pc2 := 74) S gf_X9_35 0 rfl rfl dX9_run_71 rfl ?_
          refine v_iconst (v := 4) (pc2 := 75) S dX9_run_74 (by decide) rfl ?_
          refine v_iload_n (pc2 := 76) S 1 dX9_run_75 rfl rfl rfl ?_
          refine v_imul (pc2 := 77) S dX9_run_76 rfl ?_
          obtain ⟨h11, hw⟩ := hw
          refine v_iald (pc2 := 78) S 6 rfl h11 dX9_run_77 rfl ?_
          refine v_nm (fun z12 ez12 => ?_)
          have hw := hw z12 ez12
          refine v_put (ws2 := wMod G a0 u8.1 u8.2.1 u8.2.2.1 u8.2.2.2.1 u8.2.2.2.2.1 u8.2.2.2.2.2.1 u8.2.2.2.2.2.2.1 u8.2.2.2.2.2.2.2.1 r7 x1 z12 u8.2.2.2.2.2.2.2.2.2.2.2.1 u8.2.2.2.2.2.2.2.2.2.2.2.2.1 u8.2.2.2.2.2.2.2.2.2.2.2.2.2.1 u8.2.2.2.2.2.2.2.2.2.2.2.2.2.2.1 u8.2.2.2.2.2.2.2.2.2.2.2.2.2.2.2.1 u8.2.2.2.2.2.2.2.2.2.2.2.2.2.2.2.2) (pc2 := 81) S gf_X9_32 pf_X9_10 0 rfl rfl rfl (Nat.le_of_ble_eq_true rfl) rfl dX9_run_78 rfl ?_
          refine v_iload_n (pc2 := 82) S 1 dX9_run_81 rfl rfl rfl ?_
          exact v_iret S ⟨x1, (u8.1, u8.2.1, u8.2.2.1, u8.2.2.2.1, u8.2.2.2.2.1, u8.2.2.2.2.2.1, u8.2.2.2.2.2.2.1, u8.2.2.2.2.2.2.2.1, r7, x1, z12, u8.2.2.2.2.2.2.2.2.2.2.2.1, u8.2.2.2.2.2.2.2.2.2.2.2.2.1, u8.2.2.2.2.2.2.2.2.2.2.2.2.2.1, u8.2.2.2.2.2.2.2.2.2.2.2.2.2.2.1, u8.2.2.2.2.2.2.2.2.2.2.2.2.2.2.2.1, u8.2.2.2.2.2.2.2.2.2.2.2.2.2.2.2.2), rfl, rfl, hw⟩ dX9_run_82
  refine v_aload_n (pc2 := 1) S 0 dX9_run_0 rfl rfl rfl ?_
  refine v_callV (pc2 := 4) (As := []) (rest := []) S (c_X9_readPad l G a0 v0 _ hw) mf_X9_readPad u_998 u_1000 u_44 0 9 rfl rfl rfl rfl ⟨rfl, rfl⟩ ⟨Nat.le_of_ble_eq_true rfl, Nat.le_of_ble_eq_true rfl⟩ ⟨Nat.le_of_ble_eq_true rfl, Nat.le_of_ble_eq_true rfl⟩ (Nat.le_of_ble_eq_true rfl) dX9_run_1 (frW _) rfl (pb (fun r1 u2 br1 hw => ?_))
  refine v_to (wMod G a0 u2.1 u2.2.1 u2.2.2.1 u2.2.2.2.1 u2.2.2.2.2.1 u2.2.2.2.2.2.1 u2.2.2.2.2.2.2.1 u2.2.2.2.2.2.2.2.1 u2.2.2.2.2.2.2.2.2.1 u2.2.2.2.2.2.2.2.2.2.1 u2.2.2.2.2.2.2.2.2.2.2.1 u2.2.2.2.2.2.2.2.2.2.2.2.1 u2.2.2.2.2.2.2.2.2.2.2.2.2.1 u2.2.2.2.2.2.2.2.2.2.2.2.2.2.1 u2.2.2.2.2.2.2.2.2.2.2.2.2.2.2.1 u2.2.2.2.2.2.2.2.2.2.2.2.2.2.2.2.1 u2.2.2.2.2.2.2.2.2.2.2.2.2.2.2.2.2) 4 [(0, .ref a0.1)] _ [.int r1] rfl rfl rfl rfl ?_
  refine v_if_ne (pc2 := 7) (tgt := 10) S dX9_run_4 (by decide) rfl (fun c3 => ?_) (fun c3 => ?_)
  · have hw := hw.1 c3
    refine v_aload_n (pc2 := 11) S 0 dX9_run_10 rfl rfl rfl ?_
    refine v_callV (pc2 := 14) (As := []) (rest := []) S (c_X9_record l G a0 u2 _ hw) mf_X9_record u_850 u_852 u_22 0 9 rfl rfl rfl rfl ⟨rfl, rfl⟩ ⟨Nat.le_of_ble_eq_true rfl, Nat.le_of_ble_eq_true rfl⟩ ⟨Nat.le_of_ble_eq_true rfl, Nat.le_of_ble_eq_true rfl⟩ (Nat.le_of_ble_eq_true rfl) dX9_run_11 (frW _) rfl (pv (fun u5 hw => ?_))
    refine v_to (wMod G a0 u5.1 u5.2.1 u5.2.2.1 u5.2.2.2.1 u5.2.2.2.2.1 u5.2.2.2.2.2.1 u5.2.2.2.2.2.2.1 u5.2.2.2.2.2.2.2.1 u5.2.2.2.2.2.2.2.2.1 u5.2.2.2.2.2.2.2.2.2.1 u5.2.2.2.2.2.2.2.2.2.2.1 u5.2.2.2.2.2.2.2.2.2.2.2.1 u5.2.2.2.2.2.2.2.2.2.2.2.2.1 u5.2.2.2.2.2.2.2.2.2.2.2.2.2.1 u5.2.2.2.2.2.2.2.2.2.2.2.2.2.2.1 u5.2.2.2.2.2.2.2.2.2.2.2.2.2.2.2.1 u5.2.2.2.2.2.2.2.2.2.2.2.2.2.2.2.2) 14 [(0, .ref a0.1)] _ [] rfl rfl rfl rfl ?_
    refine v_aload_n (pc2 := 15) S 0 dX9_run_14 rfl rfl rfl ?_
    refine v_bipush (v := -4) (pc2 := 17) S dX9_run_15 (by decide) rfl ?_
    refine v_put (ws2 := wMod G a0 u5.1 u5.2.1 u5.2.2.1 u5.2.2.2.1 u5.2.2.2.2.1 u5.2.2.2.2.2.1 u5.2.2.2.2.2.2.1 u5.2.2.2.2.2.2.2.1 (-4 : Int32) u5.2.2.2.2.2.2.2.2.2.1 u5.2.2.2.2.2.2.2.2.2.2.1 u5.2.2.2.2.2.2.2.2.2.2.2.1 u5.2.2.2.2.2.2.2.2.2.2.2.2.1 u5.2.2.2.2.2.2.2.2.2.2.2.2.2.1 u5.2.2.2.2.2.2.2.2.2.2.2.2.2.2.1 u5.2.2.2.2.2.2.2.2.2.2.2.2.2.2.2.1 u5.2.2.2.2.2.2.2.2.2.2.2.2.2.2.2.2) (pc2 := 20) S gf_X9_25 pf_X9_8 0 rfl rfl rfl (Nat.le_of_ble_eq_true rfl) rfl dX9_run_17 rfl ?_
    refine v_aload_n (pc2 := 21) S 0 dX9_run_20 rfl rfl rfl ?_
    refine v_bipush (v := -4) (pc2 := 23) S dX9_run_21 (by decide) rfl ?_
    refine v_put (ws2 := wMod G a0 u5.1 u5.2.1 u5.2.2.1 u5.2.2.2.1 u5.2.2.2.2.1 u5.2.2.2.2.2.1 u5.2.2.2.2.2.2.1 u5.2.2.2.2.2.2.2.1 (-4 : Int32) (-4 : Int32) u5.2.2.2.2.2.2.2.2.2.2.1 u5.2.2.2.2.2.2.2.2.2.2.2.1 u5.2.2.2.2.2.2.2.2.2.2.2.2.1 u5.2.2.2.2.2.2.2.2.2.2.2.2.2.1 u5.2.2.2.2.2.2.2.2.2.2.2.2.2.2.1 u5.2.2.2.2.2.2.2.2.2.2.2.2.2.2.2.1 u5.2.2.2.2.2.2.2.2.2.2.2.2.2.2.2.2) (pc2 := 26) S gf_X9_29 pf_X9_9 0 rfl rfl rfl (Nat.le_of_ble_eq_true rfl) rfl dX9_run_23 rfl ?_
    refine v_aload_n (pc2 := 27) S 0 dX9_run_26 rfl rfl rfl ?_
    refine v_bipush (v := -4) (pc2 := 29) S dX9_run_27 (by decide) rfl ?_
    refine v_put (ws2 := wMod G a0 u5.1 u5.2.1 u5.2.2.1 u5.2.2.2.1 u5.2.2.2.2.1 u5.2.2.2.2.2.1 u5.2.2.2.2.2.2.1 u5.2.2.2.2.2.2.2.1 (-4 : Int32) (-4 : Int32) (-4 : Int32) u5.2.2.2.2.2.2.2.2.2.2.2.1 u5.2.2.2.2.2.2.2.2.2.2.2.2.1 u5.2.2.2.2.2.2.2.2.2.2.2.2.2.1 u5.2.2.2.2.2.2.2.2.2.2.2.2.2.2.1 u5.2.2.2.2.2.2.2.2.2.2.2.2.2.2.2.1 u5.2.2.2.2.2.2.2.2.2.2.2.2.2.2.2.2) (pc2 := 32) S gf_X9_32 pf_X9_10 0 rfl rfl rfl (Nat.le_of_ble_eq_true rfl) rfl dX9_run_29 rfl ?_
    refine v_aload_n (pc2 := 33) S 0 dX9_run_32 rfl rfl rfl ?_
    refine v_iconst (v := 0) (pc2 := 34) S dX9_run_33 (by decide) rfl ?_
    refine v_put (ws2 := wMod G a0 u5.1 u5.2.1 u5.2.2.1 u5.2.2.2.1 u5.2.2.2.2.1 u5.2.2.2.2.2.1 u5.2.2.2.2.2.2.1 (0 : Int32) (-4 : Int32) (-4 : Int32) (-4 : Int32) u5.2.2.2.2.2.2.2.2.2.2.2.1 u5.2.2.2.2.2.2.2.2.2.2.2.2.1 u5.2.2.2.2.2.2.2.2.2.2.2.2.2.1 u5.2.2.2.2.2.2.2.2.2.2.2.2.2.2.1 u5.2.2.2.2.2.2.2.2.2.2.2.2.2.2.2.1 u5.2.2.2.2.2.2.2.2.2.2.2.2.2.2.2.2) (pc2 := 37) S gf_X9_151 pf_X9_7 0 rfl rfl rfl (Nat.le_of_ble_eq_true rfl) rfl dX9_run_34 rfl ?_
    refine v_iconst (v := 0) (pc2 := 38) S dX9_run_37 (by decide) rfl ?_
    refine v_istore_n (lv2 := [(0, .ref a0.1), (1, .int (0 : Int32))]) (pc2 := 39) S dX9_run_38 rfl (by decide) [1, 0] rfl rfl ?_
    obtain ⟨kk, hw⟩ := hw
    exact L39 kk (0 : Int32) (u5.1, u5.2.1, u5.2.2.1, u5.2.2.2.1, u5.2.2.2.2.1, u5.2.2.2.2.2.1, u5.2.2.2.2.2.2.1, (0 : Int32), (-4 : Int32), (-4 : Int32), (-4 : Int32), u5.2.2.2.2.2.2.2.2.2.2.2.1, u5.2.2.2.2.2.2.2.2.2.2.2.2.1, u5.2.2.2.2.2.2.2.2.2.2.2.2.2.1, u5.2.2.2.2.2.2.2.2.2.2.2.2.2.2.1, u5.2.2.2.2.2.2.2.2.2.2.2.2.2.2.2.1, u5.2.2.2.2.2.2.2.2.2.2.2.2.2.2.2.2) hw
  · have hw := hw.2 c3
    refine v_bipush (v := -2) (pc2 := 9) S dX9_run_7 (by decide) rfl ?_
    exact v_iret S ⟨(-2 : Int32), u2, rfl, rfl, hw⟩ dX9_run_9
set_option maxHeartbeats 4000000 in
set_option maxRecDepth 100000 in
theorem c_X9_why (l : Launch) (G : GG) (a0 : ModA) (v0 : ModV) (i0 : Int32) (Q : Int32 → Prop) (hw : wp_X9_why v0 i0 Q) : Con l G yX9_why cX9_why 2 (some .int) { frames := 0, cells := 0, slots := 0, locals := 0 } [.ref a0.1, .int i0] (wMod G a0 v0.1 v0.2.1 v0.2.2.1 v0.2.2.2.1 v0.2.2.2.2.1 v0.2.2.2.2.2.1 v0.2.2.2.2.2.2.1 v0.2.2.2.2.2.2.2.1 v0.2.2.2.2.2.2.2.2.1 v0.2.2.2.2.2.2.2.2.2.1 v0.2.2.2.2.2.2.2.2.2.2.1 v0.2.2.2.2.2.2.2.2.2.2.2.1 v0.2.2.2.2.2.2.2.2.2.2.2.2.1 v0.2.2.2.2.2.2.2.2.2.2.2.2.2.1 v0.2.2.2.2.2.2.2.2.2.2.2.2.2.2.1 v0.2.2.2.2.2.2.2.2.2.2.2.2.2.2.2.1 v0.2.2.2.2.2.2.2.2.2.2.2.2.2.2.2.2) (PI (fun _ : Unit => wMod G a0 v0.1 v0.2.1 v0.2.2.1 v0.2.2.2.1 v0.2.2.2.2.1 v0.2.2.2.2.2.1 v0.2.2.2.2.2.2.1 v0.2.2.2.2.2.2.2.1 v0.2.2.2.2.2.2.2.2.1 v0.2.2.2.2.2.2.2.2.2.1 v0.2.2.2.2.2.2.2.2.2.2.1 v0.2.2.2.2.2.2.2.2.2.2.2.1 v0.2.2.2.2.2.2.2.2.2.2.2.2.1 v0.2.2.2.2.2.2.2.2.2.2.2.2.2.1 v0.2.2.2.2.2.2.2.2.2.2.2.2.2.2.1 v0.2.2.2.2.2.2.2.2.2.2.2.2.2.2.2.1 v0.2.2.2.2.2.2.2.2.2.2.2.2.2.2.2.2) (fun r _ => Q r)) 0 0 := by
  refine con_of RX9 rfl (by decide) [(0, .ref a0.1), (1, .int i0)] rfl (Nat.le_of_ble_eq_true rfl) ?_
  intro p e s m args below meth c S hname
  refine v_iload_n (pc2 := 1) S 1 dX9_why_0 rfl rfl rfl ?_
  refine v_if_ne (pc2 := 4) (tgt := 11) S dX9_why_1 (by decide) rfl (fun c1 => ?_) (fun c1 => ?_)
  · have hw := hw.1 c1
    refine v_iload_n (pc2 := 12) S 1 dX9_why_11 rfl rfl rfl ?_
    refine v_iconst (v := 1) (pc2 := 13) S dX9_why_12 (by decide) rfl ?_
    refine v_icmp_ne (pc2 := 16) (tgt := 23) S dX9_why_13 (by decide) rfl (fun c2 => ?_) (fun c2 => ?_)
    · have hw := hw.1 c2
      refine v_iload_n (pc2 := 24) S 1 dX9_why_23 rfl rfl rfl ?_
      refine v_iconst (v := 2) (pc2 := 25) S dX9_why_24 (by decide) rfl ?_
      refine v_icmp_ne (pc2 := 28) (tgt := 35) S dX9_why_25 (by decide) rfl (fun c3 => ?_) (fun c3 => ?_)
      · have hw := hw.1 c3
        refine v_iconst (v := -1) (pc2 := 36) S dX9_why_35 (by decide) rfl ?_
        exact v_iret S ⟨(-1 : Int32), (), rfl, rfl, hw⟩ dX9_why_36
      · have hw := hw.2 c3
        refine v_aload_n (pc2 := 29) S 0 dX9_why_28 rfl rfl rfl ?_
        refine v_get (v := .int v0.2.2.2.2.2.2.2.2.2.2.1) (pc2 := 32) S gf_X9_32 0 rfl rfl dX9_why_29 rfl ?_
        refine v_goto (tgt := 36) S dX9_why_32 (by decide) ?_
        exact v_iret S ⟨v0.2.2.2.2.2.2.2.2.2.2.1, (), rfl, rfl, hw⟩ dX9_why_36
    · have hw := hw.2 c2
      refine v_aload_n (pc2 := 17) S 0 dX9_why_16 rfl rfl rfl ?_
      refine v_get (v := .int v0.2.2.2.2.2.2.2.2.2.1) (pc2 := 20) S gf_X9_29 0 rfl rfl dX9_why_17 rfl ?_
      refine v_goto (tgt := 36) S dX9_why_20 (by decide) ?_
      exact v_iret S ⟨v0.2.2.2.2.2.2.2.2.2.1, (), rfl, rfl, hw⟩ dX9_why_36
  · have hw := hw.2 c1
    refine v_aload_n (pc2 := 5) S 0 dX9_why_4 rfl rfl rfl ?_
    refine v_get (v := .int v0.2.2.2.2.2.2.2.2.1) (pc2 := 8) S gf_X9_25 0 rfl rfl dX9_why_5 rfl ?_
    refine v_goto (tgt := 36) S dX9_why_8 (by decide) ?_
    exact v_iret S ⟨v0.2.2.2.2.2.2.2.2.1, (), rfl, rfl, hw⟩ dX9_why_36
set_option maxHeartbeats 4000000 in
set_option maxRecDepth 100000 in
theorem c_X9_door (l : Launch) (G : GG) (a0 : ModA) (v0 : ModV) (i0 : Int32) (i1 : Int32) (Q : Int32 → Prop) (hw : wp_X9_door v0 i0 i1 Q) : Con l G yX9_door cX9_door 3 (some .int) { frames := 3, cells := 0, slots := 0, locals := 68 } [.ref a0.1, .int i0, .int i1] (wMod G a0 v0.1 v0.2.1 v0.2.2.1 v0.2.2.2.1 v0.2.2.2.2.1 v0.2.2.2.2.2.1 v0.2.2.2.2.2.2.1 v0.2.2.2.2.2.2.2.1 v0.2.2.2.2.2.2.2.2.1 v0.2.2.2.2.2.2.2.2.2.1 v0.2.2.2.2.2.2.2.2.2.2.1 v0.2.2.2.2.2.2.2.2.2.2.2.1 v0.2.2.2.2.2.2.2.2.2.2.2.2.1 v0.2.2.2.2.2.2.2.2.2.2.2.2.2.1 v0.2.2.2.2.2.2.2.2.2.2.2.2.2.2.1 v0.2.2.2.2.2.2.2.2.2.2.2.2.2.2.2.1 v0.2.2.2.2.2.2.2.2.2.2.2.2.2.2.2.2) (PI (fun _ : Unit => wMod G a0 v0.1 v0.2.1 v0.2.2.1 v0.2.2.2.1 v0.2.2.2.2.1 v0.2.2.2.2.2.1 v0.2.2.2.2.2.2.1 v0.2.2.2.2.2.2.2.1 v0.2.2.2.2.2.2.2.2.1 v0.2.2.2.2.2.2.2.2.2.1 v0.2.2.2.2.2.2.2.2.2.2.1 v0.2.2.2.2.2.2.2.2.2.2.2.1 v0.2.2.2.2.2.2.2.2.2.2.2.2.1 v0.2.2.2.2.2.2.2.2.2.2.2.2.2.1 v0.2.2.2.2.2.2.2.2.2.2.2.2.2.2.1 v0.2.2.2.2.2.2.2.2.2.2.2.2.2.2.2.1 v0.2.2.2.2.2.2.2.2.2.2.2.2.2.2.2.2) (fun r _ => Q r)) 0 0 := by
  refine con_of RX9 rfl (by decide) [(0, .ref a0.1), (1, .int i0), (2, .int i1)] rfl (Nat.le_of_ble_eq_true rfl) ?_
  intro p e s m args below meth c S hname
  refine v_iload_n (pc2 := 1) S 1 dX9_door_0 rfl rfl rfl ?_
  refine v_callS (pc2 := 4) (As := [.int i0]) (rest := []) S (c_X9_isDoor l G i0 _ hw) mf_X9_isDoor u_858 u_859 rfl rfl ⟨rfl, rfl⟩ ⟨Nat.le_of_ble_eq_true rfl, Nat.le_of_ble_eq_true rfl⟩ ⟨Nat.le_of_ble_eq_true rfl, Nat.le_of_ble_eq_true rfl⟩ (Nat.le_of_ble_eq_true rfl) dX9_door_1 (frM [] [] _) rfl (pb (fun r1 u2 br1 hw => ?_))
  refine v_to (wMod G a0 v0.1 v0.2.1 v0.2.2.1 v0.2.2.2.1 v0.2.2.2.2.1 v0.2.2.2.2.2.1 v0.2.2.2.2.2.2.1 v0.2.2.2.2.2.2.2.1 v0.2.2.2.2.2.2.2.2.1 v0.2.2.2.2.2.2.2.2.2.1 v0.2.2.2.2.2.2.2.2.2.2.1 v0.2.2.2.2.2.2.2.2.2.2.2.1 v0.2.2.2.2.2.2.2.2.2.2.2.2.1 v0.2.2.2.2.2.2.2.2.2.2.2.2.2.1 v0.2.2.2.2.2.2.2.2.2.2.2.2.2.2.1 v0.2.2.2.2.2.2.2.2.2.2.2.2.2.2.2.1 v0.2.2.2.2.2.2.2.2.2.2.2.2.2.2.2.2) 4 [(0, .ref a0.1), (1, .int i0), (2, .int i1)] _ [.int r1] rfl rfl rfl rfl ?_
  refine v_if_ne (pc2 := 7) (tgt := 9) S dX9_door_4 (by decide) rfl (fun c3 => ?_) (fun c3 => ?_)
  · have hw := hw.1 c3
    refine v_iload_n (pc2 := 10) S 2 dX9_door_9 rfl rfl rfl ?_
    by_cases c4 : i1 = (0 : Int32)
    · have hw := hw.1 c4
      refine v_tableIn (off := 54) (tgt := 64) S dX9_door_10 (by rw [c4]; decide) (by rw [c4]; decide) (by rw [c4]; rfl) (by decide) ?_
      refine v_aload_n (pc2 := 65) S 0 dX9_door_64 rfl rfl rfl ?_
      refine v_iload_n (pc2 := 66) S 1 dX9_door_65 rfl rfl rfl ?_
      refine v_iconst (v := 0) (pc2 := 67) S dX9_door_66 (by decide) rfl ?_
      refine v_callV (pc2 := 70) (As := [.int i0, .int (0 : Int32)]) (rest := []) S (c_X9_of l G a0 v0 i0 (0 : Int32) _ hw) mf_X9_of u_842 u_844 u_21 0 9 rfl rfl rfl rfl ⟨rfl, rfl⟩ ⟨Nat.le_of_ble_eq_true rfl, Nat.le_of_ble_eq_true rfl⟩ ⟨Nat.le_of_ble_eq_true rfl, Nat.le_of_ble_eq_true rfl⟩ (Nat.le_of_ble_eq_true rfl) dX9_door_67 (frW _) rfl (pi (fun r5 u6 hw => ?_))
      refine v_to (wMod G a0 v0.1 v0.2.1 v0.2.2.1 v0.2.2.2.1 v0.2.2.2.2.1 v0.2.2.2.2.2.1 v0.2.2.2.2.2.2.1 v0.2.2.2.2.2.2.2.1 v0.2.2.2.2.2.2.2.2.1 v0.2.2.2.2.2.2.2.2.2.1 v0.2.2.2.2.2.2.2.2.2.2.1 v0.2.2.2.2.2.2.2.2.2.2.2.1 v0.2.2.2.2.2.2.2.2.2.2.2.2.1 v0.2.2.2.2.2.2.2.2.2.2.2.2.2.1 v0.2.2.2.2.2.2.2.2.2.2.2.2.2.2.1 v0.2.2.2.2.2.2.2.2.2.2.2.2.2.2.2.1 v0.2.2.2.2.2.2.2.2.2.2.2.2.2.2.2.2) 70 [(0, .ref a0.1), (1, .int i0), (2, .int i1)] _ [.int r5] rfl rfl rfl rfl ?_
      exact v_iret S ⟨r5, (), rfl, rfl, hw⟩ dX9_door_70
    · have hw := hw.2
      by_cases c7 : i1 = (1 : Int32)
      · have hw := hw.1 c7
        refine v_tableIn (off := 61) (tgt := 71) S dX9_door_10 (by rw [c7]; decide) (by rw [c7]; decide) (by rw [c7]; rfl) (by decide) ?_
        refine v_aload_n (pc2 := 72) S 0 dX9_door_71 rfl rfl rfl ?_
        refine v_iload_n (pc2 := 73) S 1 dX9_door_72 rfl rfl rfl ?_
        refine v_callV (pc2 := 76) (As := [.int i0]) (rest := []) S (c_X9_lesserHall l G a0 v0 i0 _ hw) mf_X9_lesserHall u_970 u_972 u_42 0 9 rfl rfl rfl rfl ⟨rfl, rfl⟩ ⟨Nat.le_of_ble_eq_true rfl, Nat.le_of_ble_eq_true rfl⟩ ⟨Nat.le_of_ble_eq_true rfl, Nat.le_of_ble_eq_true rfl⟩ (Nat.le_of_ble_eq_true rfl) dX9_door_73 (frW _) rfl (pi (fun r8 u9 hw => ?_))
        refine v_to (wMod G a0 v0.1 v0.2.1 v0.2.2.1 v0.2.2.2.1 v0.2.2.2.2.1 v0.2.2.2.2.2.1 v0.2.2.2.2.2.2.1 v0.2.2.2.2.2.2.2.1 v0.2.2.2.2.2.2.2.2.1 v0.2.2.2.2.2.2.2.2.2.1 v0.2.2.2.2.2.2.2.2.2.2.1 v0.2.2.2.2.2.2.2.2.2.2.2.1 v0.2.2.2.2.2.2.2.2.2.2.2.2.1 v0.2.2.2.2.2.2.2.2.2.2.2.2.2.1 v0.2.2.2.2.2.2.2.2.2.2.2.2.2.2.1 v0.2.2.2.2.2.2.2.2.2.2.2.2.2.2.2.1 v0.2.2.2.2.2.2.2.2.2.2.2.2.2.2.2.2) 76 [(0, .ref a0.1), (1, .int i0), (2, .int i1)] _ [.int r8] rfl rfl rfl rfl ?_
        exact v_iret S ⟨r8, (), rfl, rfl, hw⟩ dX9_door_76
      · have hw := hw.2
        by_cases c10 : i1 = (2 : Int32)
        · have hw := hw.1 c10
          refine v_tableIn (off := 67) (tgt := 77) S dX9_door_10 (by rw [c10]; decide) (by rw [c10]; decide) (by rw [c10]; rfl) (by decide) ?_
          refine v_aload_n (pc2 := 78) S 0 dX9_door_77 rfl rfl rfl ?_
          refine v_iload_n (pc2 := 79) S 1 dX9_door_78 rfl rfl rfl ?_
          refine v_callV (pc2 := 82) (As := [.int i0]) (rest := []) S (c_X9_greaterHall l G a0 v0 i0 _ hw) mf_X9_greaterHall u_974 u_976 u_43 0 9 rfl rfl rfl rfl ⟨rfl, rfl⟩ ⟨Nat.le_of_ble_eq_true rfl, Nat.le_of_ble_eq_true rfl⟩ ⟨Nat.le_of_ble_eq_true rfl, Nat.le_of_ble_eq_true rfl⟩ (Nat.le_of_ble_eq_true rfl) dX9_door_79 (frW _) rfl (pi (fun r11 u12 hw => ?_))
          refine v_to (wMod G a0 v0.1 v0.2.1 v0.2.2.1 v0.2.2.2.1 v0.2.2.2.2.1 v0.2.2.2.2.2.1 v0.2.2.2.2.2.2.1 v0.2.2.2.2.2.2.2.1 v0.2.2.2.2.2.2.2.2.1 v0.2.2.2.2.2.2.2.2.2.1 v0.2.2.2.2.2.2.2.2.2.2.1 v0.2.2.2.2.2.2.2.2.2.2.2.1 v0.2.2.2.2.2.2.2.2.2.2.2.2.1 v0.2.2.2.2.2.2.2.2.2.2.2.2.2.1 v0.2.2.2.2.2.2.2.2.2.2.2.2.2.2.1 v0.2.2.2.2.2.2.2.2.2.2.2.2.2.2.2.1 v0.2.2.2.2.2.2.2.2.2.2.2.2.2.2.2.2) 82 [(0, .ref a0.1), (1, .int i0), (2, .int i1)] _ [.int r11] rfl rfl rfl rfl ?_
          exact v_iret S ⟨r11, (), rfl, rfl, hw⟩ dX9_door_82
        · have hw := hw.2
          by_cases c13 : i1 = (3 : Int32)
          · have hw := hw.1 c13
            refine v_tableIn (off := 73) (tgt := 83) S dX9_door_10 (by rw [c13]; decide) (by rw [c13]; decide) (by rw [c13]; rfl) (by decide) ?_
            refine v_aload_n (pc2 := 84) S 0 dX9_door_83 rfl rfl rfl ?_
            refine v_iload_n (pc2 := 85) S 1 dX9_door_84 rfl rfl rfl ?_
            refine v_iconst (v := 3) (pc2 := 86) S dX9_door_85 (by decide) rfl ?_
            refine v_callV (pc2 := 89) (As := [.int i0, .int (3 : Int32)]) (rest := []) S (c_X9_of l G a0 v0 i0 (3 : Int32) _ hw) mf_X9_of u_842 u_844 u_21 0 9 rfl rfl rfl rfl ⟨rfl, rfl⟩ ⟨Nat.le_of_ble_eq_true rfl, Nat.le_of_ble_eq_true rfl⟩ ⟨Nat.le_of_ble_eq_true rfl, Nat.le_of_ble_eq_true rfl⟩ (Nat.le_of_ble_eq_true rfl) dX9_door_86 (frW _) rfl (pi (fun r14 u15 hw => ?_))
            refine v_to (wMod G a0 v0.1 v0.2.1 v0.2.2.1 v0.2.2.2.1 v0.2.2.2.2.1 v0.2.2.2.2.2.1 v0.2.2.2.2.2.2.1 v0.2.2.2.2.2.2.2.1 v0.2.2.2.2.2.2.2.2.1 v0.2.2.2.2.2.2.2.2.2.1 v0.2.2.2.2.2.2.2.2.2.2.1 v0.2.2.2.2.2.2.2.2.2.2.2.1 v0.2.2.2.2.2.2.2.2.2.2.2.2.1 v0.2.2.2.2.2.2.2.2.2.2.2.2.2.1 v0.2.2.2.2.2.2.2.2.2.2.2.2.2.2.1 v0.2.2.2.2.2.2.2.2.2.2.2.2.2.2.2.1 v0.2.2.2.2.2.2.2.2.2.2.2.2.2.2.2.2) 89 [(0, .ref a0.1), (1, .int i0), (2, .int i1)] _ [.int r14] rfl rfl rfl rfl ?_
            exact v_iret S ⟨r14, (), rfl, rfl, hw⟩ dX9_door_89
          · have hw := hw.2
            by_cases c16 : i1 = (4 : Int32)
            · have hw := hw.1 c16
              refine v_tableIn (off := 80) (tgt := 90) S dX9_door_10 (by rw [c16]; decide) (by rw [c16]; decide) (by rw [c16]; rfl) (by decide) ?_
              refine v_aload_n (pc2 := 91) S 0 dX9_door_90 rfl rfl rfl ?_
              refine v_iload_n (pc2 := 92) S 1 dX9_door_91 rfl rfl rfl ?_
              refine v_iconst (v := 4) (pc2 := 93) S dX9_door_92 (by decide) rfl ?_
              refine v_callV (pc2 := 96) (As := [.int i0, .int (4 : Int32)]) (rest := []) S (c_X9_of l G a0 v0 i0 (4 : Int32) _ hw) mf_X9_of u_842 u_844 u_21 0 9 rfl rfl rfl rfl ⟨rfl, rfl⟩ ⟨Nat.le_of_ble_eq_true rfl, Nat.le_of_ble_eq_true rfl⟩ ⟨Nat.le_of_ble_eq_true rfl, Nat.le_of_ble_eq_true rfl⟩ (Nat.le_of_ble_eq_true rfl) dX9_door_93 (frW _) rfl (pi (fun r17 u18 hw => ?_))
              refine v_to (wMod G a0 v0.1 v0.2.1 v0.2.2.1 v0.2.2.2.1 v0.2.2.2.2.1 v0.2.2.2.2.2.1 v0.2.2.2.2.2.2.1 v0.2.2.2.2.2.2.2.1 v0.2.2.2.2.2.2.2.2.1 v0.2.2.2.2.2.2.2.2.2.1 v0.2.2.2.2.2.2.2.2.2.2.1 v0.2.2.2.2.2.2.2.2.2.2.2.1 v0.2.2.2.2.2.2.2.2.2.2.2.2.1 v0.2.2.2.2.2.2.2.2.2.2.2.2.2.1 v0.2.2.2.2.2.2.2.2.2.2.2.2.2.2.1 v0.2.2.2.2.2.2.2.2.2.2.2.2.2.2.2.1 v0.2.2.2.2.2.2.2.2.2.2.2.2.2.2.2.2) 96 [(0, .ref a0.1), (1, .int i0), (2, .int i1)] _ [.int r17] rfl rfl rfl rfl ?_
              exact v_iret S ⟨r17, (), rfl, rfl, hw⟩ dX9_door_96
            · have hw := hw.2
              by_cases c19 : i1 = (5 : Int32)
              · have hw := hw.1 c19
                refine v_tableIn (off := 87) (tgt := 97) S dX9_door_10 (by rw [c19]; decide) (by rw [c19]; decide) (by rw [c19]; rfl) (by decide) ?_
                refine v_aload_n (pc2 := 98) S 0 dX9_door_97 rfl rfl rfl ?_
                refine v_iload_n (pc2 := 99) S 1 dX9_door_98 rfl rfl rfl ?_
                refine v_iconst (v := 1) (pc2 := 100) S dX9_door_99 (by decide) rfl ?_
                refine v_callV (pc2 := 103) (As := [.int i0, .int (1 : Int32)]) (rest := []) S (c_X9_cordsTo l G a0 v0 i0 (1 : Int32) _ hw) mf_X9_cordsTo u_876 u_878 u_26 0 9 rfl rfl rfl rfl ⟨rfl, rfl⟩ ⟨Nat.le_of_ble_eq_true rfl, Nat.le_of_ble_eq_true rfl⟩ ⟨Nat.le_of_ble_eq_true rfl, Nat.le_of_ble_eq_true rfl⟩ (Nat.le_of_ble_eq_true rfl) dX9_door_100 (frW _) rfl (pi (fun r20 u21 hw => ?_))
                refine v_to (wMod G a0 v0.1 v0.2.1 v0.2.2.1 v0.2.2.2.1 v0.2.2.2.2.1 v0.2.2.2.2.2.1 v0.2.2.2.2.2.2.1 v0.2.2.2.2.2.2.2.1 v0.2.2.2.2.2.2.2.2.1 v0.2.2.2.2.2.2.2.2.2.1 v0.2.2.2.2.2.2.2.2.2.2.1 v0.2.2.2.2.2.2.2.2.2.2.2.1 v0.2.2.2.2.2.2.2.2.2.2.2.2.1 v0.2.2.2.2.2.2.2.2.2.2.2.2.2.1 v0.2.2.2.2.2.2.2.2.2.2.2.2.2.2.1 v0.2.2.2.2.2.2.2.2.2.2.2.2.2.2.2.1 v0.2.2.2.2.2.2.2.2.2.2.2.2.2.2.2.2) 103 [(0, .ref a0.1), (1, .int i0), (2, .int i1)] _ [.int r20] rfl rfl rfl rfl ?_
                refine v_if_le (pc2 := 106) (tgt := 110) S dX9_door_103 (by decide) rfl (fun c22 => ?_) (fun c22 => ?_)
                · have hw := hw.1 c22
                  refine v_iconst (v := 0) (pc2 := 111) S dX9_door_110 (by decide) rfl ?_
                  exact v_iret S ⟨(0 : Int32), (), rfl, rfl, hw⟩ dX9_door_111
                · have hw := hw.2 c22
                  refine v_iconst (v := 1) (pc2 := 107) S dX9_door_106 (by decide) rfl ?_
                  refine v_goto (tgt := 111) S dX9_door_107 (by decide) ?_
                  exact v_iret S ⟨(1 : Int32), (), rfl, rfl, hw⟩ dX9_door_111
              · have hw := hw.2
                by_cases c23 : i1 = (6 : Int32)
                · have hw := hw.1 c23
                  refine v_tableIn (off := 102) (tgt := 112) S dX9_door_10 (by rw [c23]; decide) (by rw [c23]; decide) (by rw [c23]; rfl) (by decide) ?_
                  refine v_aload_n (pc2 := 113) S 0 dX9_door_112 rfl rfl rfl ?_
                  refine v_iload_n (pc2 := 114) S 1 dX9_door_113 rfl rfl rfl ?_
                  refine v_iload_n (pc2 := 115) S 2 dX9_door_114 rfl rfl rfl ?_
                  refine v_bipush (v := 7) (pc2 := 117) S dX9_door_115 (by decide) rfl ?_
                  refine v_icmp_ne (pc2 := 120) (tgt := 124) S dX9_door_117 (by decide) rfl (fun c24 => ?_) (fun c24 => ?_)
                  · have hw := hw.1 c24
                    refine v_iconst (v := 0) (pc2 := 125) S dX9_door_124 (by decide) rfl ?_
                    refine v_callV (pc2 := 128) (As := [.int i0, .int (0 : Int32)]) (rest := []) S (c_X9_cordsTo l G a0 v0 i0 (0 : Int32) _ hw) mf_X9_cordsTo u_876 u_878 u_26 0 9 rfl rfl rfl rfl ⟨rfl, rfl⟩ ⟨Nat.le_of_ble_eq_true rfl, Nat.le_of_ble_eq_true rfl⟩ ⟨Nat.le_of_ble_eq_true rfl, Nat.le_of_ble_eq_true rfl⟩ (Nat.le_of_ble_eq_true rfl) dX9_door_125 (frW _) rfl (pi (fun r25 u26 hw => ?_))
                    refine v_to (wMod G a0 v0.1 v0.2.1 v0.2.2.1 v0.2.2.2.1 v0.2.2.2.2.1 v0.2.2.2.2.2.1 v0.2.2.2.2.2.2.1 v0.2.2.2.2.2.2.2.1 v0.2.2.2.2.2.2.2.2.1 v0.2.2.2.2.2.2.2.2.2.1 v0.2.2.2.2.2.2.2.2.2.2.1 v0.2.2.2.2.2.2.2.2.2.2.2.1 v0.2.2.2.2.2.2.2.2.2.2.2.2.1 v0.2.2.2.2.2.2.2.2.2.2.2.2.2.1 v0.2.2.2.2.2.2.2.2.2.2.2.2.2.2.1 v0.2.2.2.2.2.2.2.2.2.2.2.2.2.2.2.1 v0.2.2.2.2.2.2.2.2.2.2.2.2.2.2.2.2) 128 [(0, .ref a0.1), (1, .int i0), (2, .int i1)] _ [.int r25] rfl rfl rfl rfl ?_
                    exact v_iret S ⟨r25, (), rfl, rfl, hw⟩ dX9_door_128
                  · have hw := hw.2 c24
                    refine v_iconst (v := 1) (pc2 := 121) S dX9_door_120 (by decide) rfl ?_
                    refine v_goto (tgt := 125) S dX9_door_121 (by decide) ?_
                    refine v_callV (pc2 := 128) (As := [.int i0, .int (1 : Int32)]) (rest := []) S (c_X9_cordsTo l G a0 v0 i0 (1 : Int32) _ hw) mf_X9_cordsTo u_876 u_878 u_26 0 9 rfl rfl rfl rfl ⟨rfl, rfl⟩ ⟨Nat.le_of_ble_eq_true rfl, Nat.le_of_ble_eq_true rfl⟩ ⟨Nat.le_of_ble_eq_true rfl, Nat.le_of_ble_eq_true rfl⟩ (Nat.le_of_ble_eq_true rfl) dX9_door_125 (frW _) rfl (pi (fun r27 u28 hw => ?_))
                    refine v_to (wMod G a0 v0.1 v0.2.1 v0.2.2.1 v0.2.2.2.1 v0.2.2.2.2.1 v0.2.2.2.2.2.1 v0.2.2.2.2.2.2.1 v0.2.2.2.2.2.2.2.1 v0.2.2.2.2.2.2.2.2.1 v0.2.2.2.2.2.2.2.2.2.1 v0.2.2.2.2.2.2.2.2.2.2.1 v0.2.2.2.2.2.2.2.2.2.2.2.1 v0.2.2.2.2.2.2.2.2.2.2.2.2.1 v0.2.2.2.2.2.2.2.2.2.2.2.2.2.1 v0.2.2.2.2.2.2.2.2.2.2.2.2.2.2.1 v0.2.2.2.2.2.2.2.2.2.2.2.2.2.2.2.1 v0.2.2.2.2.2.2.2.2.2.2.2.2.2.2.2.2) 128 [(0, .ref a0.1), (1, .int i0), (2, .int i1)] _ [.int r27] rfl rfl rfl rfl ?_
                    exact v_iret S ⟨r27, (), rfl, rfl, hw⟩ dX9_door_128
                · have hw := hw.2
                  by_cases c29 : i1 = (7 : Int32)
                  · have hw := hw.1 c29
                    refine v_tableIn (off := 102) (tgt := 112) S dX9_door_10 (by rw [c29]; decide) (by rw [c29]; decide) (by rw [c29]; rfl) (by decide) ?_
                    refine v_aload_n (pc2 := 113) S 0 dX9_door_112 rfl rfl rfl ?_
                    refine v_iload_n (pc2 := 114) S 1 dX9_door_113 rfl rfl rfl ?_
                    refine v_iload_n (pc2 := 115) S 2 dX9_door_114 rfl rfl rfl ?_
                    refine v_bipush (v := 7) (pc2 := 117) S dX9_door_115 (by decide) rfl ?_
                    refine v_icmp_ne (pc2 := 120) (tgt := 124) S dX9_door_117 (by decide) rfl (fun c30 => ?_) (fun c30 => ?_)
                    · have hw := hw.1 c30
                      refine v_iconst (v := 0) (pc2 := 125) S dX9_door_124 (by decide) rfl ?_
                      refine v_callV (pc2 := 128) (As := [.int i0, .int (0 : Int32)]) (rest := []) S (c_X9_cordsTo l G a0 v0 i0 (0 : Int32) _ hw) mf_X9_cordsTo u_876 u_878 u_26 0 9 rfl rfl rfl rfl ⟨rfl, rfl⟩ ⟨Nat.le_of_ble_eq_true rfl, Nat.le_of_ble_eq_true rfl⟩ ⟨Nat.le_of_ble_eq_true rfl, Nat.le_of_ble_eq_true rfl⟩ (Nat.le_of_ble_eq_true rfl) dX9_door_125 (frW _) rfl (pi (fun r31 u32 hw => ?_))
                      refine v_to (wMod G a0 v0.1 v0.2.1 v0.2.2.1 v0.2.2.2.1 v0.2.2.2.2.1 v0.2.2.2.2.2.1 v0.2.2.2.2.2.2.1 v0.2.2.2.2.2.2.2.1 v0.2.2.2.2.2.2.2.2.1 v0.2.2.2.2.2.2.2.2.2.1 v0.2.2.2.2.2.2.2.2.2.2.1 v0.2.2.2.2.2.2.2.2.2.2.2.1 v0.2.2.2.2.2.2.2.2.2.2.2.2.1 v0.2.2.2.2.2.2.2.2.2.2.2.2.2.1 v0.2.2.2.2.2.2.2.2.2.2.2.2.2.2.1 v0.2.2.2.2.2.2.2.2.2.2.2.2.2.2.2.1 v0.2.2.2.2.2.2.2.2.2.2.2.2.2.2.2.2) 128 [(0, .ref a0.1), (1, .int i0), (2, .int i1)] _ [.int r31] rfl rfl rfl rfl ?_
                      exact v_iret S ⟨r31, (), rfl, rfl, hw⟩ dX9_door_128
                    · have hw := hw.2 c30
                      refine v_iconst (v := 1) (pc2 := 121) S dX9_door_120 (by decide) rfl ?_
                      refine v_goto (tgt := 125) S dX9_door_121 (by decide) ?_
                      refine v_callV (pc2 := 128) (As := [.int i0, .int (1 : Int32)]) (rest := []) S (c_X9_cordsTo l G a0 v0 i0 (1 : Int32) _ hw) mf_X9_cordsTo u_876 u_878 u_26 0 9 rfl rfl rfl rfl ⟨rfl, rfl⟩ ⟨Nat.le_of_ble_eq_true rfl, Nat.le_of_ble_eq_true rfl⟩ ⟨Nat.le_of_ble_eq_true rfl, Nat.le_of_ble_eq_true rfl⟩ (Nat.le_of_ble_eq_true rfl) dX9_door_125 (frW _) rfl (pi (fun r33 u34 hw => ?_))
                      refine v_to (wMod G a0 v0.1 v0.2.1 v0.2.2.1 v0.2.2.2.1 v0.2.2.2.2.1 v0.2.2.2.2.2.1 v0.2.2.2.2.2.2.1 v0.2.2.2.2.2.2.2.1 v0.2.2.2.2.2.2.2.2.1 v0.2.2.2.2.2.2.2.2.2.1 v0.2.2.2.2.2.2.2.2.2.2.1 v0.2.2.2.2.2.2.2.2.2.2.2.1 v0.2.2.2.2.2.2.2.2.2.2.2.2.1 v0.2.2.2.2.2.2.2.2.2.2.2.2.2.1 v0.2.2.2.2.2.2.2.2.2.2.2.2.2.2.1 v0.2.2.2.2.2.2.2.2.2.2.2.2.2.2.2.1 v0.2.2.2.2.2.2.2.2.2.2.2.2.2.2.2.2) 128 [(0, .ref a0.1), (1, .int i0), (2, .int i1)] _ [.int r33] rfl rfl rfl rfl ?_
                      exact v_iret S ⟨r33, (), rfl, rfl, hw⟩ dX9_door_128
                  · have hw := hw.2
                    by_cases c35 : i1 = (8 : Int32)
                    · have hw := hw.1 c35
                      refine v_tableIn (off := 119) (tgt := 129) S dX9_door_10 (by rw [c35]; decide) (by rw [c35]; decide) (by rw [c35]; rfl) (by decide) ?_
                      refine v_aload_n (pc2 := 130) S 0 dX9_door_129 rfl rfl rfl ?_
                      refine v_iload_n (pc2 := 131) S 1 dX9_door_130 rfl rfl rfl ?_
                      refine v_iconst (v := 5) (pc2 := 132) S dX9_door_131 (by decide) rfl ?_
                      refine v_callV (pc2 := 135) (As := [.int i0, .int (5 : Int32)]) (rest := []) S (c_X9_of l G a0 v0 i0 (5 : Int32) _ hw) mf_X9_of u_842 u_844 u_21 0 9 rfl rfl rfl rfl ⟨rfl, rfl⟩ ⟨Nat.le_of_ble_eq_true rfl, Nat.le_of_ble_eq_true rfl⟩ ⟨Nat.le_of_ble_eq_true rfl, Nat.le_of_ble_eq_true rfl⟩ (Nat.le_of_ble_eq_true rfl) dX9_door_132 (frW _) rfl (pi (fun r36 u37 hw => ?_))
                      refine v_to (wMod G a0 v0.1 v0.2.1 v0.2.2.1 v0.2.2.2.1 v0.2.2.2.2.1 v0.2.2.2.2.2.1 v0.2.2.2.2.2.2.1 v0.2.2.2.2.2.2.2.1 v0.2.2.2.2.2.2.2.2.1 v0.2.2.2.2.2.2.2.2.2.1 v0.2.2.2.2.2.2.2.2.2.2.1 v0.2.2.2.2.2.2.2.2.2.2.2.1 v0.2.2.2.2.2.2.2.2.2.2.2.2.1 v0.2.2.2.2.2.2.2.2.2.2.2.2.2.1 v0.2.2.2.2.2.2.2.2.2.2.2.2.2.2.1 v0.2.2.2.2.2.2.2.2.2.2.2.2.2.2.2.1 v0.2.2.2.2.2.2.2.2.2.2.2.2.2.2.2.2) 135 [(0, .ref a0.1), (1, .int i0), (2, .int i1)] _ [.int r36] rfl rfl rfl rfl ?_
                      exact v_iret S ⟨r36, (), rfl, rfl, hw⟩ dX9_door_135
                    · have hw := hw.2
                      by_cases c38 : i1 = (9 : Int32)
                      · have hw := hw.1 c38
                        refine v_tableIn (off := 126) (tgt := 136) S dX9_door_10 (by rw [c38]; decide) (by rw [c38]; decide) (by rw [c38]; rfl) (by decide) ?_
                        refine v_aload_n (pc2 := 137) S 0 dX9_door_136 rfl rfl rfl ?_
                        refine v_iload_n (pc2 := 138) S 1 dX9_door_137 rfl rfl rfl ?_
                        refine v_bipush (v := 6) (pc2 := 140) S dX9_door_138 (by decide) rfl ?_
                        refine v_callV (pc2 := 143) (As := [.int i0, .int (6 : Int32)]) (rest := []) S (c_X9_of l G a0 v0 i0 (6 : Int32) _ hw) mf_X9_of u_842 u_844 u_21 0 9 rfl rfl rfl rfl ⟨rfl, rfl⟩ ⟨Nat.le_of_ble_eq_true rfl, Nat.le_of_ble_eq_true rfl⟩ ⟨Nat.le_of_ble_eq_true rfl, Nat.le_of_ble_eq_true rfl⟩ (Nat.le_of_ble_eq_true rfl) dX9_door_140 (frW _) rfl (pi (fun r39 u40 hw => ?_))
                        refine v_to (wMod G a0 v0.1 v0.2.1 v0.2.2.1 v0.2.2.2.1 v0.2.2.2.2.1 v0.2.2.2.2.2.1 v0.2.2.2.2.2.2.1 v0.2.2.2.2.2.2.2.1 v0.2.2.2.2.2.2.2.2.1 v0.2.2.2.2.2.2.2.2.2.1 v0.2.2.2.2.2.2.2.2.2.2.1 v0.2.2.2.2.2.2.2.2.2.2.2.1 v0.2.2.2.2.2.2.2.2.2.2.2.2.1 v0.2.2.2.2.2.2.2.2.2.2.2.2.2.1 v0.2.2.2.2.2.2.2.2.2.2.2.2.2.2.1 v0.2.2.2.2.2.2.2.2.2.2.2.2.2.2.2.1 v0.2.2.2.2.2.2.2.2.2.2.2.2.2.2.2.2) 143 [(0, .ref a0.1), (1, .int i0), (2, .int i1)] _ [.int r39] rfl rfl rfl rfl ?_
                        exact v_iret S ⟨r39, (), rfl, rfl, hw⟩ dX9_door_143
                      · have hw := hw.2
                        have hw := hw c4 c7 c10 c13 c16 c19 c23 c29 c35 c38
                        refine v_tableOut (tgt := 144) S dX9_door_10 (sw_out9 c4 c7 c10 c13 c16 c19 c23 c29 c35 c38) (by decide) ?_
                        refine v_iconst (v := -1) (pc2 := 145) S dX9_door_144 (by decide) rfl ?_
                        exact v_iret S ⟨(-1 : Int32), (), rfl, rfl, hw⟩ dX9_door_145
  · have hw := hw.2 c3
    refine v_iconst (v := -1) (pc2 := 8) S dX9_door_7 (by decide) rfl ?_
    exact v_iret S ⟨(-1 : Int32), (), rfl, rfl, hw⟩ dX9_door_8
set_option maxHeartbeats 4000000 in
set_option maxRecDepth 100000 in
theorem c_X9_doorsOf (l : Launch) (G : GG) (a0 : ModA) (v0 : ModV) (i0 : Int32) (Q : Int32 → Prop) (hw : wp_X9_doorsOf v0 i0 Q) : Con l G yX9_doorsOf cX9_doorsOf 4 (some .int) { frames := 2, cells := 0, slots := 0, locals := 44 } [.ref a0.1, .int i0] (wMod G a0 v0.1 v0.2.1 v0.2.2.1 v0.2.2.2.1 v0.2.2.2.2.1 v0.2.2.2.2.2.1 v0.2.2.2.2.2.2.1 v0.2.2.2.2.2.2.2.1 v0.2.2.2.2.2.2.2.2.1 v0.2.2.2.2.2.2.2.2.2.1 v0.2.2.2.2.2.2.2.2.2.2.1 v0.2.2.2.2.2.2.2.2.2.2.2.1 v0.2.2.2.2.2.2.2.2.2.2.2.2.1 v0.2.2.2.2.2.2.2.2.2.2.2.2.2.1 v0.2.2.2.2.2.2.2.2.2.2.2.2.2.2.1 v0.2.2.2.2.2.2.2.2.2.2.2.2.2.2.2.1 v0.2.2.2.2.2.2.2.2.2.2.2.2.2.2.2.2) (PI (fun _ : Unit => wMod G a0 v0.1 v0.2.1 v0.2.2.1 v0.2.2.2.1 v0.2.2.2.2.1 v0.2.2.2.2.2.1 v0.2.2.2.2.2.2.1 v0.2.2.2.2.2.2.2.1 v0.2.2.2.2.2.2.2.2.1 v0.2.2.2.2.2.2.2.2.2.1 v0.2.2.2.2.2.2.2.2.2.2.1 v0.2.2.2.2.2.2.2.2.2.2.2.1 v0.2.2.2.2.2.2.2.2.2.2.2.2.1 v0.2.2.2.2.2.2.2.2.2.2.2.2.2.1 v0.2.2.2.2.2.2.2.2.2.2.2.2.2.2.1 v0.2.2.2.2.2.2.2.2.2.2.2.2.2.2.2.1 v0.2.2.2.2.2.2.2.2.2.2.2.2.2.2.2.2) (fun r _ => Q r)) 0 0 := by
  refine con_of RX9 rfl (by decide) [(0, .ref a0.1), (1, .int i0)] rfl (Nat.le_of_ble_eq_true rfl) ?_
  intro p e s m args below meth c S hname
  have L4 : ∀ (x1 : Int32) (kk : Nat) (x2 : Int32) (x3 : Int32), wp_X9_doorsOf_L4 v0 x1 Q kk x2 x3 → V p l e { frames := 2, cells := 0, slots := 0, locals := 44 } s m args below meth c G (va_A (wMod G a0 v0.1 v0.2.1 v0.2.2.1 v0.2.2.2.1 v0.2.2.2.2.1 v0.2.2.2.2.2.1 v0.2.2.2.2.2.2.1 v0.2.2.2.2.2.2.2.1 v0.2.2.2.2.2.2.2.2.1 v0.2.2.2.2.2.2.2.2.2.1 v0.2.2.2.2.2.2.2.2.2.2.1 v0.2.2.2.2.2.2.2.2.2.2.2.1 v0.2.2.2.2.2.2.2.2.2.2.2.2.1 v0.2.2.2.2.2.2.2.2.2.2.2.2.2.1 v0.2.2.2.2.2.2.2.2.2.2.2.2.2.2.1 v0.2.2.2.2.2.2.2.2.2.2.2.2.2.2.2.1 v0.2.2.2.2.2.2.2.2.2.2.2.2.2.2.2.2) s.heap.size) 4 0 0 (MQ below (EQ G (wMod G a0 v0.1 v0.2.1 v0.2.2.1 v0.2.2.2.1 v0.2.2.2.2.1 v0.2.2.2.2.2.1 v0.2.2.2.2.2.2.1 v0.2.2.2.2.2.2.2.1 v0.2.2.2.2.2.2.2.2.1 v0.2.2.2.2.2.2.2.2.2.1 v0.2.2.2.2.2.2.2.2.2.2.1 v0.2.2.2.2.2.2.2.2.2.2.2.1 v0.2.2.2.2.2.2.2.2.2.2.2.2.1 v0.2.2.2.2.2.2.2.2.2.2.2.2.2.1 v0.2.2.2.2.2.2.2.2.2.2.2.2.2.2.1 v0.2.2.2.2.2.2.2.2.2.2.2.2.2.2.2.1 v0.2.2.2.2.2.2.2.2.2.2.2.2.2.2.2.2) s.heap.size (PI (fun _ : Unit => wMod G a0 v0.1 v0.2.1 v0.2.2.1 v0.2.2.2.1 v0.2.2.2.2.1 v0.2.2.2.2.2.1 v0.2.2.2.2.2.2.1 v0.2.2.2.2.2.2.2.1 v0.2.2.2.2.2.2.2.2.1 v0.2.2.2.2.2.2.2.2.2.1 v0.2.2.2.2.2.2.2.2.2.2.1 v0.2.2.2.2.2.2.2.2.2.2.2.1 v0.2.2.2.2.2.2.2.2.2.2.2.2.1 v0.2.2.2.2.2.2.2.2.2.2.2.2.2.1 v0.2.2.2.2.2.2.2.2.2.2.2.2.2.2.1 v0.2.2.2.2.2.2.2.2.2.2.2.2.2.2.2.1 v0.2.2.2.2.2.2.2.2.2.2.2.2.2.2.2.2) (fun r _ => Q r))) args s 0 0 (va_A (wMod G a0 v0.1 v0.2.1 v0.2.2.1 v0.2.2.2.1 v0.2.2.2.2.1 v0.2.2.2.2.2.1 v0.2.2.2.2.2.2.1 v0.2.2.2.2.2.2.2.1 v0.2.2.2.2.2.2.2.2.1 v0.2.2.2.2.2.2.2.2.2.1 v0.2.2.2.2.2.2.2.2.2.2.1 v0.2.2.2.2.2.2.2.2.2.2.2.1 v0.2.2.2.2.2.2.2.2.2.2.2.2.1 v0.2.2.2.2.2.2.2.2.2.2.2.2.2.1 v0.2.2.2.2.2.2.2.2.2.2.2.2.2.2.1 v0.2.2.2.2.2.2.2.2.2.2.2.2.2.2.2.1 v0.2.2.2.2.2.2.2.2.2.2.2.2.2.2.2.2) s.heap.size)) (wMod G a0 v0.1 v0.2.1 v0.2.2.1 v0.2.2.2.1 v0.2.2.2.2.1 v0.2.2.2.2.2.1 v0.2.2.2.2.2.2.1 v0.2.2.2.2.2.2.2.1 v0.2.2.2.2.2.2.2.2.1 v0.2.2.2.2.2.2.2.2.2.1 v0.2.2.2.2.2.2.2.2.2.2.1 v0.2.2.2.2.2.2.2.2.2.2.2.1 v0.2.2.2.2.2.2.2.2.2.2.2.2.1 v0.2.2.2.2.2.2.2.2.2.2.2.2.2.1 v0.2.2.2.2.2.2.2.2.2.2.2.2.2.2.1 v0.2.2.2.2.2.2.2.2.2.2.2.2.2.2.2.1 v0.2.2.2.2.2.2.2.2.2.2.2.2.2.2.2.2) 4 [(0, .ref a0.1), (1, .int x1), (2, .int x2), (3, .int x3)] [] := by
    intro x1 kk
    induction kk with
    | zero => intro x2 x3 hw; exact hw.elim
    | succ n ih =>
      intro x2 x3 hw
      refine v_iload_n (pc2 := 5) S 3 dX9_doorsOf_4 rfl rfl rfl ?_
      refine v_bipush (v := 10) (pc2 := 7) S dX9_doorsOf_5 (by decide) rfl ?_
      refine v_icmp_ge (pc2 := 10) (tgt := 33) S dX9_doorsOf_7 (by decide) rfl (fun c1 => ?_) (fun c1 => ?_)
      · have hw := hw.1 c1
        refine v_iload_n (pc2 := 34) S 2 dX9_doorsOf_33 rfl rfl rfl ?_
        exact v_iret S ⟨x2, (), rfl, rfl, hw⟩ dX9_doorsOf_34
      · have hw := hw.2 c1
        refine v_iload_n (pc2 := 11) S 2 dX9_doorsOf_10 rfl rfl rfl ?_
        refine v_aload_n (pc2 := 12) S 0 dX9_doorsOf_11 rfl rfl rfl ?_
        refine v_iload_n (pc2 := 13) S 3 dX9_doorsOf_12 rfl rfl rfl ?_
        refine v_iload_n (pc2 := 14) S 1 dX9_doorsOf_13 rfl rfl rfl ?_
        refine v_callV (pc2 := 17) (As := [.int x3, .int x1]) (rest := [.int x2]) S (c_X9_joins l G a0 v0 x3 x1 _ hw) mf_X9_joins u_900 u_902 u_32 0 9 rfl rfl rfl rfl ⟨rfl, rfl⟩ ⟨Nat.le_of_ble_eq_true rfl, Nat.le_of_ble_eq_true rfl⟩ ⟨Nat.le_of_ble_eq_true rfl, Nat.le_of_ble_eq_true rfl⟩ (Nat.le_of_ble_eq_true rfl) dX9_doorsOf_14 (frW _) rfl (pb (fun r2 u3 br2 hw => ?_))
        refine v_to (wMod G a0 v0.1 v0.2.1 v0.2.2.1 v0.2.2.2.1 v0.2.2.2.2.1 v0.2.2.2.2.2.1 v0.2.2.2.2.2.2.1 v0.2.2.2.2.2.2.2.1 v0.2.2.2.2.2.2.2.2.1 v0.2.2.2.2.2.2.2.2.2.1 v0.2.2.2.2.2.2.2.2.2.2.1 v0.2.2.2.2.2.2.2.2.2.2.2.1 v0.2.2.2.2.2.2.2.2.2.2.2.2.1 v0.2.2.2.2.2.2.2.2.2.2.2.2.2.1 v0.2.2.2.2.2.2.2.2.2.2.2.2.2.2.1 v0.2.2.2.2.2.2.2.2.2.2.2.2.2.2.2.1 v0.2.2.2.2.2.2.2.2.2.2.2.2.2.2.2.2) 17 [(0, .ref a0.1), (1, .int x1), (2, .int x2), (3, .int x3)] _ [.int r2, .int x2] rfl rfl rfl rfl ?_
        refine v_if_eq (pc2 := 20) (tgt := 24) S dX9_doorsOf_17 (by decide) rfl (fun c4 => ?_) (fun c4 => ?_)
        · have hw := hw.1 c4
          refine v_iconst (v := 0) (pc2 := 25) S dX9_doorsOf_24 (by decide) rfl ?_
          refine v_iadd (pc2 := 26) S dX9_doorsOf_25 rfl ?_
          refine v_nm (fun z5 ez5 => ?_)
          have hw := hw z5 ez5
          refine v_istore_n (lv2 := [(0, .ref a0.1), (1, .int x1), (2, .int z5), (3, .int x3)]) (pc2 := 27) S dX9_doorsOf_26 rfl (by decide) [1, 2, 0, 3] rfl rfl ?_
          obtain ⟨z6, ez6⟩ : ∃ y : Int32, y = x3 + (1 : Int32) := ⟨_, rfl⟩
          have hw := hw z6 ez6
          refine v_iinc (v := z6) (lv2 := [(0, .ref a0.1), (1, .int x1), (2, .int z5), (3, .int z6)]) (pc2 := 30) S 3 dX9_doorsOf_27 rfl (by rw [ez6]; rfl) (by decide) [1, 2, 3, 0] rfl rfl ?_
          refine v_goto (tgt := 4) S dX9_doorsOf_30 (by decide) ?_
          exact ih z5 z6 hw
        · have hw := hw.2 c4
          refine v_iconst (v := 1) (pc2 := 21) S dX9_doorsOf_20 (by decide) rfl ?_
          refine v_goto (tgt := 25) S dX9_doorsOf_21 (by decide) ?_
          refine v_iadd (pc2 := 26) S dX9_doorsOf_25 rfl ?_
          refine v_nm (fun z7 ez7 => ?_)
          have hw := hw z7 ez7
          refine v_istore_n (lv2 := [(0, .ref a0.1), (1, .int x1), (2, .int z7), (3, .int x3)]) (pc2 := 27) S dX9_doorsOf_26 rfl (by decide) [1, 2, 0, 3] rfl rfl ?_
          obtain ⟨z8, ez8⟩ : ∃ y : Int32, y = x3 + (1 : Int32) := ⟨_, rfl⟩
          have hw := hw z8 ez8
          refine v_iinc (v := z8) (lv2 := [(0, .ref a0.1), (1, .int x1), (2, .int z7), (3, .int z8)]) (pc2 := 30) S 3 dX9_doorsOf_27 rfl (by rw [ez8]; rfl) (by decide) [1, 2, 3, 0] rfl rfl ?_
          refine v_goto (tgt := 4) S dX9_doorsOf_30 (by decide) ?_
          exact ih z7 z8 hw
  refine v_iconst (v := 0) (pc2 := 1) S dX9_doorsOf_0 (by decide) rfl ?_
  refine v_istore_n (lv2 := [(0, .ref a0.1), (1, .int i0), (2, .int (0 : Int32))]) (pc2 := 2) S dX9_doorsOf_1 rfl (by decide) [1, 2, 0] rfl rfl ?_
  refine v_iconst (v := 0) (pc2 := 3) S dX9_doorsOf_2 (by decide) rfl ?_
  refine v_istore_n (lv2 := [(0, .ref a0.1), (1, .int i0), (2, .int (0 : Int32)), (3, .int (0 : Int32))]) (pc2 := 4) S dX9_doorsOf_3 rfl (by decide) [1, 2, 3, 0] rfl rfl ?_
  obtain ⟨kk, hw⟩ := hw
  exact L4 i0 kk (0 : Int32) (0 : Int32) hw
set_option maxHeartbeats 4000000 in
set_option maxRecDepth 100000 in
theorem c_X9_guestsIn (l : Launch) (G : GG) (a0 : ModA) (v0 : ModV) (i0 : Int32) (Q : Int32 → Prop) (hw : wp_X9_guestsIn v0 i0 Q) : Con l G yX9_guestsIn cX9_guestsIn 4 (some .int) { frames := 1, cells := 0, slots := 0, locals := 22 } [.ref a0.1, .int i0] (wMod G a0 v0.1 v0.2.1 v0.2.2.1 v0.2.2.2.1 v0.2.2.2.2.1 v0.2.2.2.2.2.1 v0.2.2.2.2.2.2.1 v0.2.2.2.2.2.2.2.1 v0.2.2.2.2.2.2.2.2.1 v0.2.2.2.2.2.2.2.2.2.1 v0.2.2.2.2.2.2.2.2.2.2.1 v0.2.2.2.2.2.2.2.2.2.2.2.1 v0.2.2.2.2.2.2.2.2.2.2.2.2.1 v0.2.2.2.2.2.2.2.2.2.2.2.2.2.1 v0.2.2.2.2.2.2.2.2.2.2.2.2.2.2.1 v0.2.2.2.2.2.2.2.2.2.2.2.2.2.2.2.1 v0.2.2.2.2.2.2.2.2.2.2.2.2.2.2.2.2) (PI (fun _ : Unit => wMod G a0 v0.1 v0.2.1 v0.2.2.1 v0.2.2.2.1 v0.2.2.2.2.1 v0.2.2.2.2.2.1 v0.2.2.2.2.2.2.1 v0.2.2.2.2.2.2.2.1 v0.2.2.2.2.2.2.2.2.1 v0.2.2.2.2.2.2.2.2.2.1 v0.2.2.2.2.2.2.2.2.2.2.1 v0.2.2.2.2.2.2.2.2.2.2.2.1 v0.2.2.2.2.2.2.2.2.2.2.2.2.1 v0.2.2.2.2.2.2.2.2.2.2.2.2.2.1 v0.2.2.2.2.2.2.2.2.2.2.2.2.2.2.1 v0.2.2.2.2.2.2.2.2.2.2.2.2.2.2.2.1 v0.2.2.2.2.2.2.2.2.2.2.2.2.2.2.2.2) (fun r _ => Q r)) 0 0 := by
  refine con_of RX9 rfl (by decide) [(0, .ref a0.1), (1, .int i0)] rfl (Nat.le_of_ble_eq_true rfl) ?_
  intro p e s m args below meth c S hname
  have L4 : ∀ (x1 : Int32) (kk : Nat) (x2 : Int32) (x3 : Int32), wp_X9_guestsIn_L4 v0 x1 Q kk x2 x3 → V p l e { frames := 1, cells := 0, slots := 0, locals := 22 } s m args below meth c G (va_A (wMod G a0 v0.1 v0.2.1 v0.2.2.1 v0.2.2.2.1 v0.2.2.2.2.1 v0.2.2.2.2.2.1 v0.2.2.2.2.2.2.1 v0.2.2.2.2.2.2.2.1 v0.2.2.2.2.2.2.2.2.1 v0.2.2.2.2.2.2.2.2.2.1 v0.2.2.2.2.2.2.2.2.2.2.1 v0.2.2.2.2.2.2.2.2.2.2.2.1 v0.2.2.2.2.2.2.2.2.2.2.2.2.1 v0.2.2.2.2.2.2.2.2.2.2.2.2.2.1 v0.2.2.2.2.2.2.2.2.2.2.2.2.2.2.1 v0.2.2.2.2.2.2.2.2.2.2.2.2.2.2.2.1 v0.2.2.2.2.2.2.2.2.2.2.2.2.2.2.2.2) s.heap.size) 4 0 0 (MQ below (EQ G (wMod G a0 v0.1 v0.2.1 v0.2.2.1 v0.2.2.2.1 v0.2.2.2.2.1 v0.2.2.2.2.2.1 v0.2.2.2.2.2.2.1 v0.2.2.2.2.2.2.2.1 v0.2.2.2.2.2.2.2.2.1 v0.2.2.2.2.2.2.2.2.2.1 v0.2.2.2.2.2.2.2.2.2.2.1 v0.2.2.2.2.2.2.2.2.2.2.2.1 v0.2.2.2.2.2.2.2.2.2.2.2.2.1 v0.2.2.2.2.2.2.2.2.2.2.2.2.2.1 v0.2.2.2.2.2.2.2.2.2.2.2.2.2.2.1 v0.2.2.2.2.2.2.2.2.2.2.2.2.2.2.2.1 v0.2.2.2.2.2.2.2.2.2.2.2.2.2.2.2.2) s.heap.size (PI (fun _ : Unit => wMod G a0 v0.1 v0.2.1 v0.2.2.1 v0.2.2.2.1 v0.2.2.2.2.1 v0.2.2.2.2.2.1 v0.2.2.2.2.2.2.1 v0.2.2.2.2.2.2.2.1 v0.2.2.2.2.2.2.2.2.1 v0.2.2.2.2.2.2.2.2.2.1 v0.2.2.2.2.2.2.2.2.2.2.1 v0.2.2.2.2.2.2.2.2.2.2.2.1 v0.2.2.2.2.2.2.2.2.2.2.2.2.1 v0.2.2.2.2.2.2.2.2.2.2.2.2.2.1 v0.2.2.2.2.2.2.2.2.2.2.2.2.2.2.1 v0.2.2.2.2.2.2.2.2.2.2.2.2.2.2.2.1 v0.2.2.2.2.2.2.2.2.2.2.2.2.2.2.2.2) (fun r _ => Q r))) args s 0 0 (va_A (wMod G a0 v0.1 v0.2.1 v0.2.2.1 v0.2.2.2.1 v0.2.2.2.2.1 v0.2.2.2.2.2.1 v0.2.2.2.2.2.2.1 v0.2.2.2.2.2.2.2.1 v0.2.2.2.2.2.2.2.2.1 v0.2.2.2.2.2.2.2.2.2.1 v0.2.2.2.2.2.2.2.2.2.2.1 v0.2.2.2.2.2.2.2.2.2.2.2.1 v0.2.2.2.2.2.2.2.2.2.2.2.2.1 v0.2.2.2.2.2.2.2.2.2.2.2.2.2.1 v0.2.2.2.2.2.2.2.2.2.2.2.2.2.2.1 v0.2.2.2.2.2.2.2.2.2.2.2.2.2.2.2.1 v0.2.2.2.2.2.2.2.2.2.2.2.2.2.2.2.2) s.heap.size)) (wMod G a0 v0.1 v0.2.1 v0.2.2.1 v0.2.2.2.1 v0.2.2.2.2.1 v0.2.2.2.2.2.1 v0.2.2.2.2.2.2.1 v0.2.2.2.2.2.2.2.1 v0.2.2.2.2.2.2.2.2.1 v0.2.2.2.2.2.2.2.2.2.1 v0.2.2.2.2.2.2.2.2.2.2.1 v0.2.2.2.2.2.2.2.2.2.2.2.1 v0.2.2.2.2.2.2.2.2.2.2.2.2.1 v0.2.2.2.2.2.2.2.2.2.2.2.2.2.1 v0.2.2.2.2.2.2.2.2.2.2.2.2.2.2.1 v0.2.2.2.2.2.2.2.2.2.2.2.2.2.2.2.1 v0.2.2.2.2.2.2.2.2.2.2.2.2.2.2.2.2) 4 [(0, .ref a0.1), (1, .int x1), (2, .int x2), (3, .int x3)] [] := by
    intro x1 kk
    induction kk with
    | zero => intro x2 x3 hw; exact hw.elim
    | succ n ih =>
      intro x2 x3 hw
      refine v_iload_n (pc2 := 5) S 3 dX9_guestsIn_4 rfl rfl rfl ?_
      refine v_iconst (v := 3) (pc2 := 6) S dX9_guestsIn_5 (by decide) rfl ?_
      refine v_icmp_ge (pc2 := 9) (tgt := 33) S dX9_guestsIn_6 (by decide) rfl (fun c1 => ?_) (fun c1 => ?_)
      · have hw := hw.1 c1
        refine v_iload_n (pc2 := 34) S 2 dX9_guestsIn_33 rfl rfl rfl ?_
        exact v_iret S ⟨x2, (), rfl, rfl, hw⟩ dX9_guestsIn_34
      · have hw := hw.2 c1
        refine v_iload_n (pc2 := 10) S 2 dX9_guestsIn_9 rfl rfl rfl ?_
        refine v_aload_n (pc2 := 11) S 0 dX9_guestsIn_10 rfl rfl rfl ?_
        refine v_iload_n (pc2 := 12) S 3 dX9_guestsIn_11 rfl rfl rfl ?_
        refine v_iconst (v := 0) (pc2 := 13) S dX9_guestsIn_12 (by decide) rfl ?_
        refine v_callV (pc2 := 16) (As := [.int x3, .int (0 : Int32)]) (rest := [.int x2]) S (c_X9_ofGuest l G a0 v0 x3 (0 : Int32) _ hw) mf_X9_ofGuest u_931 u_933 u_37 0 9 rfl rfl rfl rfl ⟨rfl, rfl⟩ ⟨Nat.le_of_ble_eq_true rfl, Nat.le_of_ble_eq_true rfl⟩ ⟨Nat.le_of_ble_eq_true rfl, Nat.le_of_ble_eq_true rfl⟩ (Nat.le_of_ble_eq_true rfl) dX9_guestsIn_13 (frW _) rfl (pi (fun r2 u3 hw => ?_))
        refine v_to (wMod G a0 v0.1 v0.2.1 v0.2.2.1 v0.2.2.2.1 v0.2.2.2.2.1 v0.2.2.2.2.2.1 v0.2.2.2.2.2.2.1 v0.2.2.2.2.2.2.2.1 v0.2.2.2.2.2.2.2.2.1 v0.2.2.2.2.2.2.2.2.2.1 v0.2.2.2.2.2.2.2.2.2.2.1 v0.2.2.2.2.2.2.2.2.2.2.2.1 v0.2.2.2.2.2.2.2.2.2.2.2.2.1 v0.2.2.2.2.2.2.2.2.2.2.2.2.2.1 v0.2.2.2.2.2.2.2.2.2.2.2.2.2.2.1 v0.2.2.2.2.2.2.2.2.2.2.2.2.2.2.2.1 v0.2.2.2.2.2.2.2.2.2.2.2.2.2.2.2.2) 16 [(0, .ref a0.1), (1, .int x1), (2, .int x2), (3, .int x3)] _ [.int r2, .int x2] rfl rfl rfl rfl ?_
        refine v_iload_n (pc2 := 17) S 1 dX9_guestsIn_16 rfl rfl rfl ?_
        refine v_icmp_ne (pc2 := 20) (tgt := 24) S dX9_guestsIn_17 (by decide) rfl (fun c4 => ?_) (fun c4 => ?_)
        · have hw := hw.1 c4
          refine v_iconst (v := 0) (pc2 := 25) S dX9_guestsIn_24 (by decide) rfl ?_
          refine v_iadd (pc2 := 26) S dX9_guestsIn_25 rfl ?_
          refine v_nm (fun z5 ez5 => ?_)
          have hw := hw z5 ez5
          refine v_istore_n (lv2 := [(0, .ref a0.1), (1, .int x1), (2, .int z5), (3, .int x3)]) (pc2 := 27) S dX9_guestsIn_26 rfl (by decide) [1, 2, 0, 3] rfl rfl ?_
          obtain ⟨z6, ez6⟩ : ∃ y : Int32, y = x3 + (1 : Int32) := ⟨_, rfl⟩
          have hw := hw z6 ez6
          refine v_iinc (v := z6) (lv2 := [(0, .ref a0.1), (1, .int x1), (2, .int z5), (3, .int z6)]) (pc2 := 30) S 3 dX9_guestsIn_27 rfl (by rw [ez6]; rfl) (by decide) [1, 2, 3, 0] rfl rfl ?_
          refine v_goto (tgt := 4) S dX9_guestsIn_30 (by decide) ?_
          exact ih z5 z6 hw
        · have hw := hw.2 c4
          refine v_iconst (v := 1) (pc2 := 21) S dX9_guestsIn_20 (by decide) rfl ?_
          refine v_goto (tgt := 25) S dX9_guestsIn_21 (by decide) ?_
          refine v_iadd (pc2 := 26) S dX9_guestsIn_25 rfl ?_
          refine v_nm (fun z7 ez7 => ?_)
          have hw := hw z7 ez7
          refine v_istore_n (lv2 := [(0, .ref a0.1), (1, .int x1), (2, .int z7), (3, .int x3)]) (pc2 := 27) S dX9_guestsIn_26 rfl (by decide) [1, 2, 0, 3] rfl rfl ?_
          obtain ⟨z8, ez8⟩ : ∃ y : Int32, y = x3 + (1 : Int32) := ⟨_, rfl⟩
          have hw := hw z8 ez8
          refine v_iinc (v := z8) (lv2 := [(0, .ref a0.1), (1, .int x1), (2, .int z7), (3, .int z8)]) (pc2 := 30) S 3 dX9_guestsIn_27 rfl (by rw [ez8]; rfl) (by decide) [1, 2, 3, 0] rfl rfl ?_
          refine v_goto (tgt := 4) S dX9_guestsIn_30 (by decide) ?_
          exact ih z7 z8 hw
  refine v_iconst (v := 0) (pc2 := 1) S dX9_guestsIn_0 (by decide) rfl ?_
  refine v_istore_n (lv2 := [(0, .ref a0.1), (1, .int i0), (2, .int (0 : Int32))]) (pc2 := 2) S dX9_guestsIn_1 rfl (by decide) [1, 2, 0] rfl rfl ?_
  refine v_iconst (v := 0) (pc2 := 3) S dX9_guestsIn_2 (by decide) rfl ?_
  refine v_istore_n (lv2 := [(0, .ref a0.1), (1, .int i0), (2, .int (0 : Int32)), (3, .int (0 : Int32))]) (pc2 := 4) S dX9_guestsIn_3 rfl (by decide) [1, 2, 3, 0] rfl rfl ?_
  obtain ⟨kk, hw⟩ := hw
  exact L4 i0 kk (0 : Int32) (0 : Int32) hw
set_option maxHeartbeats 4000000 in
set_option maxRecDepth 100000 in
theorem c_X9_hangs (l : Launch) (G : GG) (a0 : ModA) (v0 : ModV) (i0 : Int32) (Q : Int32 → Prop) (hw : wp_X9_hangs v0 i0 Q) : Con l G yX9_hangs cX9_hangs 6 (some .int) { frames := 2, cells := 0, slots := 0, locals := 43 } [.ref a0.1, .int i0] (wMod G a0 v0.1 v0.2.1 v0.2.2.1 v0.2.2.2.1 v0.2.2.2.2.1 v0.2.2.2.2.2.1 v0.2.2.2.2.2.2.1 v0.2.2.2.2.2.2.2.1 v0.2.2.2.2.2.2.2.2.1 v0.2.2.2.2.2.2.2.2.2.1 v0.2.2.2.2.2.2.2.2.2.2.1 v0.2.2.2.2.2.2.2.2.2.2.2.1 v0.2.2.2.2.2.2.2.2.2.2.2.2.1 v0.2.2.2.2.2.2.2.2.2.2.2.2.2.1 v0.2.2.2.2.2.2.2.2.2.2.2.2.2.2.1 v0.2.2.2.2.2.2.2.2.2.2.2.2.2.2.2.1 v0.2.2.2.2.2.2.2.2.2.2.2.2.2.2.2.2) (PI (fun _ : Unit => wMod G a0 v0.1 v0.2.1 v0.2.2.1 v0.2.2.2.1 v0.2.2.2.2.1 v0.2.2.2.2.2.1 v0.2.2.2.2.2.2.1 v0.2.2.2.2.2.2.2.1 v0.2.2.2.2.2.2.2.2.1 v0.2.2.2.2.2.2.2.2.2.1 v0.2.2.2.2.2.2.2.2.2.2.1 v0.2.2.2.2.2.2.2.2.2.2.2.1 v0.2.2.2.2.2.2.2.2.2.2.2.2.1 v0.2.2.2.2.2.2.2.2.2.2.2.2.2.1 v0.2.2.2.2.2.2.2.2.2.2.2.2.2.2.1 v0.2.2.2.2.2.2.2.2.2.2.2.2.2.2.2.1 v0.2.2.2.2.2.2.2.2.2.2.2.2.2.2.2.2) (fun r _ => Q r)) 0 0 := by
  refine con_of RX9 rfl (by decide) [(0, .ref a0.1), (1, .int i0)] rfl (Nat.le_of_ble_eq_true rfl) ?_
  intro p e s m args below meth c S hname
  have L15 : ∀ (x3 : Int32) (K6 : Int32 → Int32 → Prop) (hK6 : ∀ (y0 : Int32) (y1 : Int32), K6 y0 y1 → V p l e { frames := 2, cells := 0, slots := 0, locals := 43 } s m args below meth c G (va_A (wMod G a0 v0.1 v0.2.1 v0.2.2.1 v0.2.2.2.1 v0.2.2.2.2.1 v0.2.2.2.2.2.1 v0.2.2.2.2.2.2.1 v0.2.2.2.2.2.2.2.1 v0.2.2.2.2.2.2.2.2.1 v0.2.2.2.2.2.2.2.2.2.1 v0.2.2.2.2.2.2.2.2.2.2.1 v0.2.2.2.2.2.2.2.2.2.2.2.1 v0.2.2.2.2.2.2.2.2.2.2.2.2.1 v0.2.2.2.2.2.2.2.2.2.2.2.2.2.1 v0.2.2.2.2.2.2.2.2.2.2.2.2.2.2.1 v0.2.2.2.2.2.2.2.2.2.2.2.2.2.2.2.1 v0.2.2.2.2.2.2.2.2.2.2.2.2.2.2.2.2) s.heap.size) 6 0 0 (MQ below (EQ G (wMod G a0 v0.1 v0.2.1 v0.2.2.1 v0.2.2.2.1 v0.2.2.2.2.1 v0.2.2.2.2.2.1 v0.2.2.2.2.2.2.1 v0.2.2.2.2.2.2.2.1 v0.2.2.2.2.2.2.2.2.1 v0.2.2.2.2.2.2.2.2.2.1 v0.2.2.2.2.2.2.2.2.2.2.1 v0.2.2.2.2.2.2.2.2.2.2.2.1 v0.2.2.2.2.2.2.2.2.2.2.2.2.1 v0.2.2.2.2.2.2.2.2.2.2.2.2.2.1 v0.2.2.2.2.2.2.2.2.2.2.2.2.2.2.1 v0.2.2.2.2.2.2.2.2.2.2.2.2.2.2.2.1 v0.2.2.2.2.2.2.2.2.2.2.2.2.2.2.2.2) s.heap.size (PI (fun _ : Unit => wMod G a0 v0.1 v0.2.1 v0.2.2.1 v0.2.2.2.1 v0.2.2.2.2.1 v0.2.2.2.2.2.1 v0.2.2.2.2.2.2.1 v0.2.2.2.2.2.2.2.1 v0.2.2.2.2.2.2.2.2.1 v0.2.2.2.2.2.2.2.2.2.1 v0.2.2.2.2.2.2.2.2.2.2.1 v0.2.2.2.2.2.2.2.2.2.2.2.1 v0.2.2.2.2.2.2.2.2.2.2.2.2.1 v0.2.2.2.2.2.2.2.2.2.2.2.2.2.1 v0.2.2.2.2.2.2.2.2.2.2.2.2.2.2.1 v0.2.2.2.2.2.2.2.2.2.2.2.2.2.2.2.1 v0.2.2.2.2.2.2.2.2.2.2.2.2.2.2.2.2) (fun r _ => Q r))) args s 0 0 (va_A (wMod G a0 v0.1 v0.2.1 v0.2.2.1 v0.2.2.2.1 v0.2.2.2.2.1 v0.2.2.2.2.2.1 v0.2.2.2.2.2.2.1 v0.2.2.2.2.2.2.2.1 v0.2.2.2.2.2.2.2.2.1 v0.2.2.2.2.2.2.2.2.2.1 v0.2.2.2.2.2.2.2.2.2.2.1 v0.2.2.2.2.2.2.2.2.2.2.2.1 v0.2.2.2.2.2.2.2.2.2.2.2.2.1 v0.2.2.2.2.2.2.2.2.2.2.2.2.2.1 v0.2.2.2.2.2.2.2.2.2.2.2.2.2.2.1 v0.2.2.2.2.2.2.2.2.2.2.2.2.2.2.2.1 v0.2.2.2.2.2.2.2.2.2.2.2.2.2.2.2.2) s.heap.size)) (wMod G a0 v0.1 v0.2.1 v0.2.2.1 v0.2.2.2.1 v0.2.2.2.2.1 v0.2.2.2.2.2.1 v0.2.2.2.2.2.2.1 v0.2.2.2.2.2.2.2.1 v0.2.2.2.2.2.2.2.2.1 v0.2.2.2.2.2.2.2.2.2.1 v0.2.2.2.2.2.2.2.2.2.2.1 v0.2.2.2.2.2.2.2.2.2.2.2.1 v0.2.2.2.2.2.2.2.2.2.2.2.2.1 v0.2.2.2.2.2.2.2.2.2.2.2.2.2.1 v0.2.2.2.2.2.2.2.2.2.2.2.2.2.2.1 v0.2.2.2.2.2.2.2.2.2.2.2.2.2.2.2.1 v0.2.2.2.2.2.2.2.2.2.2.2.2.2.2.2.2) 6 [(0, .ref a0.1), (2, .int y0), (3, .int y1)] []) (kk : Nat) (x2 : Int32) (x4 : Int32), wp_X9_hangs_L15 v0 x3 Q K6 kk x2 x4 → V p l e { frames := 2, cells := 0, slots := 0, locals := 43 } s m args below meth c G (va_A (wMod G a0 v0.1 v0.2.1 v0.2.2.1 v0.2.2.2.1 v0.2.2.2.2.1 v0.2.2.2.2.2.1 v0.2.2.2.2.2.2.1 v0.2.2.2.2.2.2.2.1 v0.2.2.2.2.2.2.2.2.1 v0.2.2.2.2.2.2.2.2.2.1 v0.2.2.2.2.2.2.2.2.2.2.1 v0.2.2.2.2.2.2.2.2.2.2.2.1 v0.2.2.2.2.2.2.2.2.2.2.2.2.1 v0.2.2.2.2.2.2.2.2.2.2.2.2.2.1 v0.2.2.2.2.2.2.2.2.2.2.2.2.2.2.1 v0.2.2.2.2.2.2.2.2.2.2.2.2.2.2.2.1 v0.2.2.2.2.2.2.2.2.2.2.2.2.2.2.2.2) s.heap.size) 6 0 0 (MQ below (EQ G (wMod G a0 v0.1 v0.2.1 v0.2.2.1 v0.2.2.2.1 v0.2.2.2.2.1 v0.2.2.2.2.2.1 v0.2.2.2.2.2.2.1 v0.2.2.2.2.2.2.2.1 v0.2.2.2.2.2.2.2.2.1 v0.2.2.2.2.2.2.2.2.2.1 v0.2.2.2.2.2.2.2.2.2.2.1 v0.2.2.2.2.2.2.2.2.2.2.2.1 v0.2.2.2.2.2.2.2.2.2.2.2.2.1 v0.2.2.2.2.2.2.2.2.2.2.2.2.2.1 v0.2.2.2.2.2.2.2.2.2.2.2.2.2.2.1 v0.2.2.2.2.2.2.2.2.2.2.2.2.2.2.2.1 v0.2.2.2.2.2.2.2.2.2.2.2.2.2.2.2.2) s.heap.size (PI (fun _ : Unit => wMod G a0 v0.1 v0.2.1 v0.2.2.1 v0.2.2.2.1 v0.2.2.2.2.1 v0.2.2.2.2.2.1 v0.2.2.2.2.2.2.1 v0.2.2.2.2.2.2.2.1 v0.2.2.2.2.2.2.2.2.1 v0.2.2.2.2.2.2.2.2.2.1 v0.2.2.2.2.2.2.2.2.2.2.1 v0.2.2.2.2.2.2.2.2.2.2.2.1 v0.2.2.2.2.2.2.2.2.2.2.2.2.1 v0.2.2.2.2.2.2.2.2.2.2.2.2.2.1 v0.2.2.2.2.2.2.2.2.2.2.2.2.2.2.1 v0.2.2.2.2.2.2.2.2.2.2.2.2.2.2.2.1 v0.2.2.2.2.2.2.2.2.2.2.2.2.2.2.2.2) (fun r _ => Q r))) args s 0 0 (va_A (wMod G a0 v0.1 v0.2.1 v0.2.2.1 v0.2.2.2.1 v0.2.2.2.2.1 v0.2.2.2.2.2.1 v0.2.2.2.2.2.2.1 v0.2.2.2.2.2.2.2.1 v0.2.2.2.2.2.2.2.2.1 v0.2.2.2.2.2.2.2.2.2.1 v0.2.2.2.2.2.2.2.2.2.2.1 v0.2.2.2.2.2.2.2.2.2.2.2.1 v0.2.2.2.2.2.2.2.2.2.2.2.2.1 v0.2.2.2.2.2.2.2.2.2.2.2.2.2.1 v0.2.2.2.2.2.2.2.2.2.2.2.2.2.2.1 v0.2.2.2.2.2.2.2.2.2.2.2.2.2.2.2.1 v0.2.2.2.2.2.2.2.2.2.2.2.2.2.2.2.2) s.heap.size)) (wMod G a0 v0.1 v0.2.1 v0.2.2.1 v0.2.2.2.1 v0.2.2.2.2.1 v0.2.2.2.2.2.1 v0.2.2.2.2.2.2.1 v0.2.2.2.2.2.2.2.1 v0.2.2.2.2.2.2.2.2.1 v0.2.2.2.2.2.2.2.2.2.1 v0.2.2.2.2.2.2.2.2.2.2.1 v0.2.2.2.2.2.2.2.2.2.2.2.1 v0.2.2.2.2.2.2.2.2.2.2.2.2.1 v0.2.2.2.2.2.2.2.2.2.2.2.2.2.1 v0.2.2.2.2.2.2.2.2.2.2.2.2.2.2.1 v0.2.2.2.2.2.2.2.2.2.2.2.2.2.2.2.1 v0.2.2.2.2.2.2.2.2.2.2.2.2.2.2.2.2) 15 [(0, .ref a0.1), (2, .int x2), (3, .int x3), (4, .int x4)] [] := by
    intro x3 K6 hK6 kk
    induction kk with
    | zero => intro x2 x4 hw; exact hw.elim
    | succ n ih =>
      intro x2 x4 hw
      refine v_iload (pc2 := 17) S 3 dX9_hangs_15 rfl rfl ?_
      refine v_bipush (v := 10) (pc2 := 19) S dX9_hangs_17 (by decide) rfl ?_
      refine v_icmp_ge (pc2 := 22) (tgt := 74) S dX9_hangs_19 (by decide) rfl (fun c3 => ?_) (fun c3 => ?_)
      · have hw := hw.1 c3
        obtain ⟨z4, ez4⟩ : ∃ y : Int32, y = x3 + (1 : Int32) := ⟨_, rfl⟩
        have hw := hw z4 ez4
        refine v_iinc (v := z4) (lv2 := [(0, .ref a0.1), (2, .int x2), (3, .int z4), (4, .int x4)]) (pc2 := 77) S 2 dX9_hangs_74 rfl (by rw [ez4]; rfl) (by decide) [1, 2, 0, 3] rfl rfl ?_
        refine v_goto (tgt := 6) S dX9_hangs_77 (by decide) ?_
        refine v_lv [(0, .ref a0.1), (2, .int x2), (3, .int z4)] [0, 1, 2] rfl ?_
        exact hK6 x2 z4 hw
      · have hw := hw.2 c3
        refine v_iconst (v := 1) (pc2 := 23) S dX9_hangs_22 (by decide) rfl ?_
        refine v_aload_n (pc2 := 24) S 0 dX9_hangs_23 rfl rfl rfl ?_
        refine v_iload (pc2 := 26) S 3 dX9_hangs_24 rfl rfl ?_
        refine v_iconst (v := 1) (pc2 := 27) S dX9_hangs_26 (by decide) rfl ?_
        refine v_callV (pc2 := 30) (As := [.int x4, .int (1 : Int32)]) (rest := [.int (1 : Int32)]) S (c_X9_of l G a0 v0 x4 (1 : Int32) _ hw) mf_X9_of u_842 u_844 u_21 0 9 rfl rfl rfl rfl ⟨rfl, rfl⟩ ⟨Nat.le_of_ble_eq_true rfl, Nat.le_of_ble_eq_true rfl⟩ ⟨Nat.le_of_ble_eq_true rfl, Nat.le_of_ble_eq_true rfl⟩ (Nat.le_of_ble_eq_true rfl) dX9_hangs_27 (frW _) rfl (pi (fun r5 u6 hw => ?_))
        refine v_to (wMod G a0 v0.1 v0.2.1 v0.2.2.1 v0.2.2.2.1 v0.2.2.2.2.1 v0.2.2.2.2.2.1 v0.2.2.2.2.2.2.1 v0.2.2.2.2.2.2.2.1 v0.2.2.2.2.2.2.2.2.1 v0.2.2.2.2.2.2.2.2.2.1 v0.2.2.2.2.2.2.2.2.2.2.1 v0.2.2.2.2.2.2.2.2.2.2.2.1 v0.2.2.2.2.2.2.2.2.2.2.2.2.1 v0.2.2.2.2.2.2.2.2.2.2.2.2.2.1 v0.2.2.2.2.2.2.2.2.2.2.2.2.2.2.1 v0.2.2.2.2.2.2.2.2.2.2.2.2.2.2.2.1 v0.2.2.2.2.2.2.2.2.2.2.2.2.2.2.2.2) 30 [(0, .ref a0.1), (2, .int x2), (3, .int x3), (4, .int x4)] _ [.int r5, .int (1 : Int32)] rfl rfl rfl rfl ?_
        refine v_ishl (pc2 := 31) S dX9_hangs_30 rfl ?_
        refine v_iconst (v := 1) (pc2 := 32) S dX9_hangs_31 (by decide) rfl ?_
        refine v_aload_n (pc2 := 33) S 0 dX9_hangs_32 rfl rfl rfl ?_
        refine v_iload (pc2 := 35) S 3 dX9_hangs_33 rfl rfl ?_
        refine v_iconst (v := 2) (pc2 := 36) S dX9_hangs_35 (by decide) rfl ?_
        refine v_callV (pc2 := 39) (As := [.int x4, .int (2 : Int32)]) (rest := [.int (1 : Int32), .int ((1 : Int32) <<< (r5 &&& 31))]) S (c_X9_of l G a0 v0 x4 (2 : Int32) _ hw) mf_X9_of u_842 u_844 u_21 0 9 rfl rfl rfl rfl ⟨rfl, rfl⟩ ⟨Nat.le_of_ble_eq_true rfl, Nat.le_of_ble_eq_true rfl⟩ ⟨Nat.le_of_ble_eq_true rfl, Nat.le_of_ble_eq_true rfl⟩ (Nat.le_of_ble_eq_true rfl) dX9_hangs_36 (frW _) rfl (pi (fun r7 u8 hw => ?_))
        refine v_to (wMod G a0 v0.1 v0.2.1 v0.2.2.1 v0.2.2.2.1 v0.2.2.2.2.1 v0.2.2.2.2.2.1 v0.2.2.2.2.2.2.1 v0.2.2.2.2.2.2.2.1 v0.2.2.2.2.2.2.2.2.1 v0.2.2.2.2.2.2.2.2.2.1 v0.2.2.2.2.2.2.2.2.2.2.1 v0.2.2.2.2.2.2.2.2.2.2.2.1 v0.2.2.2.2.2.2.2.2.2.2.2.2.1 v0.2.2.2.2.2.2.2.2.2.2.2.2.2.1 v0.2.2.2.2.2.2.2.2.2.2.2.2.2.2.1 v0.2.2.2.2.2.2.2.2.2.2.2.2.2.2.2.1 v0.2.2.2.2.2.2.2.2.2.2.2.2.2.2.2.2) 39 [(0, .ref a0.1), (2, .int x2), (3, .int x3), (4, .int x4)] _ [.int r7, .int (1 : Int32), .int ((1 : Int32) <<< (r5 &&& 31))] rfl rfl rfl rfl ?_
        refine v_ishl (pc2 := 40) S dX9_hangs_39 rfl ?_
        refine v_ior (pc2 := 41) S dX9_hangs_40 rfl ?_
        refine v_nm (fun z9 ez9 => ?_)
        have hw := hw z9 ez9
        refine v_istore (lv2 := [(0, .ref a0.1), (2, .int x2), (3, .int x3), (4, .int x4), (5, .int z9)]) (pc2 := 43) S dX9_hangs_41 (by decide) [1, 2, 3, 4, 0] rfl rfl ?_
        refine v_iload_n (pc2 := 44) S 1 dX9_hangs_43 rfl rfl rfl ?_
        refine v_aload_n (pc2 := 45) S 0 dX9_hangs_44 rfl rfl rfl ?_
        refine v_iload (pc2 := 47) S 3 dX9_hangs_45 rfl rfl ?_
        refine v_callV (pc2 := 50) (As := [.int x4]) (rest := [.int x2]) S (c_X9_isOpen l G a0 v0 x4 _ hw) mf_X9_isOpen u_872 u_874 u_25 0 9 rfl rfl rfl rfl ⟨rfl, rfl⟩ ⟨Nat.le_of_ble_eq_true rfl, Nat.le_of_ble_eq_true rfl⟩ ⟨Nat.le_of_ble_eq_true rfl, Nat.le_of_ble_eq_true rfl⟩ (Nat.le_of_ble_eq_true rfl) dX9_hangs_47 (frW _) rfl (pb (fun r10 u11 br10 hw => ?_))
        refine v_to (wMod G a0 v0.1 v0.2.1 v0.2.2.1 v0.2.2.2.1 v0.2.2.2.2.1 v0.2.2.2.2.2.1 v0.2.2.2.2.2.2.1 v0.2.2.2.2.2.2.2.1 v0.2.2.2.2.2.2.2.2.1 v0.2.2.2.2.2.2.2.2.2.1 v0.2.2.2.2.2.2.2.2.2.2.1 v0.2.2.2.2.2.2.2.2.2.2.2.1 v0.2.2.2.2.2.2.2.2.2.2.2.2.1 v0.2.2.2.2.2.2.2.2.2.2.2.2.2.1 v0.2.2.2.2.2.2.2.2.2.2.2.2.2.2.1 v0.2.2.2.2.2.2.2.2.2.2.2.2.2.2.2.1 v0.2.2.2.2.2.2.2.2.2.2.2.2.2.2.2.2) 50 [(0, .ref a0.1), (2, .int x2), (3, .int x3), (4, .int x4), (5, .int z9)] _ [.int r10, .int x2] rfl rfl rfl rfl ?_
        refine v_if_eq (pc2 := 53) (tgt := 65) S dX9_hangs_50 (by decide) rfl (fun c12 => ?_) (fun c12 => ?_)
        · have hw := hw.1 c12
          refine v_iconst (v := 0) (pc2 := 66) S dX9_hangs_65 (by decide) rfl ?_
          refine v_ior (pc2 := 67) S dX9_hangs_66 rfl ?_
          refine v_nm (fun z13 ez13 => ?_)
          have hw := hw z13 ez13
          refine v_istore_n (lv2 := [(0, .ref a0.1), (2, .int z13), (3, .int x3), (4, .int x4), (5, .int z9)]) (pc2 := 68) S dX9_hangs_67 rfl (by decide) [1, 0, 2, 3, 4] rfl rfl ?_
          obtain ⟨z14, ez14⟩ : ∃ y : Int32, y = x4 + (1 : Int32) := ⟨_, rfl⟩
          have hw := hw z14 ez14
          refine v_iinc (v := z14) (lv2 := [(0, .ref a0.1), (2, .int z13), (3, .int x3), (4, .int z14), (5, .int z9)]) (pc2 := 71) S 3 dX9_hangs_68 rfl (by rw [ez14]; rfl) (by decide) [1, 2, 3, 0, 4] rfl rfl ?_
          refine v_goto (tgt := 15) S dX9_hangs_71 (by decide) ?_
          refine v_lv [(0, .ref a0.1), (2, .int z13), (3, .int x3), (4, .int z14)] [0, 1, 2, 3] rfl ?_
          exact ih z13 z14 hw
        · have hw := hw.2 c12
          refine v_iload_n (pc2 := 54) S 1 dX9_hangs_53 rfl rfl rfl ?_
          refine v_iload (pc2 := 56) S 4 dX9_hangs_54 rfl rfl ?_
          refine v_iand (pc2 := 57) S dX9_hangs_56 rfl ?_
          refine v_if_eq (pc2 := 60) (tgt := 65) S dX9_hangs_57 (by decide) rfl (fun c15 => ?_) (fun c15 => ?_)
          · have hw := hw.1 c15
            refine v_iconst (v := 0) (pc2 := 66) S dX9_hangs_65 (by decide) rfl ?_
            refine v_ior (pc2 := 67) S dX9_hangs_66 rfl ?_
            refine v_nm (fun z16 ez16 => ?_)
            have hw := hw z16 ez16
            refine v_istore_n (lv2 := [(0, .ref a0.1), (2, .int z16), (3, .int x3), (4, .int x4), (5, .int z9)]) (pc2 := 68) S dX9_hangs_67 rfl (by decide) [1, 0, 2, 3, 4] rfl rfl ?_
            obtain ⟨z17, ez17⟩ : ∃ y : Int32, y = x4 + (1 : Int32) := ⟨_, rfl⟩
            have hw := hw z17 ez17
            refine v_iinc (v := z17) (lv2 := [(0, .ref a0.1), (2, .int z16), (3, .int x3), (4, .int z17), (5, .int z9)]) (pc2 := 71) S 3 dX9_hangs_68 rfl (by rw [ez17]; rfl) (by decide) [1, 2, 3, 0, 4] rfl rfl ?_
            refine v_goto (tgt := 15) S dX9_hangs_71 (by decide) ?_
            refine v_lv [(0, .ref a0.1), (2, .int z16), (3, .int x3), (4, .int z17)] [0, 1, 2, 3] rfl ?_
            exact ih z16 z17 hw
          · have hw := hw.2 c15
            refine v_iload (pc2 := 62) S 4 dX9_hangs_60 rfl rfl ?_
            refine v_goto (tgt := 66) S dX9_hangs_62 (by decide) ?_
            refine v_ior (pc2 := 67) S dX9_hangs_66 rfl ?_
            refine v_nm (fun z18 ez18 => ?_)
            have hw := hw z18 ez18
            refine v_istore_n (lv2 := [(0, .ref a0.1), (2, .int z18), (3, .int x3), (4, .int x4), (5, .int z9)]) (pc2 := 68) S dX9_hangs_67 rfl (by decide) [1, 0, 2, 3, 4] rfl rfl ?_
            obtain ⟨z19, ez19⟩ : ∃ y : Int32, y = x4 + (1 : Int32) := ⟨_, rfl⟩
            have hw := hw z19 ez19
            refine v_iinc (v := z19) (lv2 := [(0, .ref a0.1), (2, .int z18), (3, .int x3), (4, .int z19), (5, .int z9)]) (pc2 := 71) S 3 dX9_hangs_68 rfl (by rw [ez19]; rfl) (by decide) [1, 2, 3, 0, 4] rfl rfl ?_
            refine v_goto (tgt := 15) S dX9_hangs_71 (by decide) ?_
            refine v_lv [(0, .ref a0.1), (2, .int z18), (3, .int x3), (4, .int z19)] [0, 1, 2, 3] rfl ?_
            exact ih z18 z19 hw
  have L6 : ∀ (kk : Nat) (x2 : Int32) (x3 : Int32), wp_X9_hangs_L6 v0 Q kk x2 x3 → V p l e { frames := 2, cells := 0, slots := 0, locals := 43 } s m args below meth c G (va_A (wMod G a0 v0.1 v0.2.1 v0.2.2.1 v0.2.2.2.1 v0.2.2.2.2.1 v0.2.2.2.2.2.1 v0.2.2.2.2.2.2.1 v0.2.2.2.2.2.2.2.1 v0.2.2.2.2.2.2.2.2.1 v0.2.2.2.2.2.2.2.2.2.1 v0.2.2.2.2.2.2.2.2.2.2.1 v0.2.2.2.2.2.2.2.2.2.2.2.1 v0.2.2.2.2.2.2.2.2.2.2.2.2.1 v0.2.2.2.2.2.2.2.2.2.2.2.2.2.1 v0.2.2.2.2.2.2.2.2.2.2.2.2.2.2.1 v0.2.2.2.2.2.2.2.2.2.2.2.2.2.2.2.1 v0.2.2.2.2.2.2.2.2.2.2.2.2.2.2.2.2) s.heap.size) 6 0 0 (MQ below (EQ G (wMod G a0 v0.1 v0.2.1 v0.2.2.1 v0.2.2.2.1 v0.2.2.2.2.1 v0.2.2.2.2.2.1 v0.2.2.2.2.2.2.1 v0.2.2.2.2.2.2.2.1 v0.2.2.2.2.2.2.2.2.1 v0.2.2.2.2.2.2.2.2.2.1 v0.2.2.2.2.2.2.2.2.2.2.1 v0.2.2.2.2.2.2.2.2.2.2.2.1 v0.2.2.2.2.2.2.2.2.2.2.2.2.1 v0.2.2.2.2.2.2.2.2.2.2.2.2.2.1 v0.2.2.2.2.2.2.2.2.2.2.2.2.2.2.1 v0.2.2.2.2.2.2.2.2.2.2.2.2.2.2.2.1 v0.2.2.2.2.2.2.2.2.2.2.2.2.2.2.2.2) s.heap.size (PI (fun _ : Unit => wMod G a0 v0.1 v0.2.1 v0.2.2.1 v0.2.2.2.1 v0.2.2.2.2.1 v0.2.2.2.2.2.1 v0.2.2.2.2.2.2.1 v0.2.2.2.2.2.2.2.1 v0.2.2.2.2.2.2.2.2.1 v0.2.2.2.2.2.2.2.2.2.1 v0.2.2.2.2.2.2.2.2.2.2.1 v0.2.2.2.2.2.2.2.2.2.2.2.1 v0.2.2.2.2.2.2.2.2.2.2.2.2.1 v0.2.2.2.2.2.2.2.2.2.2.2.2.2.1 v0.2.2.2.2.2.2.2.2.2.2.2.2.2.2.1 v0.2.2.2.2.2.2.2.2.2.2.2.2.2.2.2.1 v0.2.2.2.2.2.2.2.2.2.2.2.2.2.2.2.2) (fun r _ => Q r))) args s 0 0 (va_A (wMod G a0 v0.1 v0.2.1 v0.2.2.1 v0.2.2.2.1 v0.2.2.2.2.1 v0.2.2.2.2.2.1 v0.2.2.2.2.2.2.1 v0.2.2.2.2.2.2.2.1 v0.2.2.2.2.2.2.2.2.1 v0.2.2.2.2.2.2.2.2.2.1 v0.2.2.2.2.2.2.2.2.2.2.1 v0.2.2.2.2.2.2.2.2.2.2.2.1 v0.2.2.2.2.2.2.2.2.2.2.2.2.1 v0.2.2.2.2.2.2.2.2.2.2.2.2.2.1 v0.2.2.2.2.2.2.2.2.2.2.2.2.2.2.1 v0.2.2.2.2.2.2.2.2.2.2.2.2.2.2.2.1 v0.2.2.2.2.2.2.2.2.2.2.2.2.2.2.2.2) s.heap.size)) (wMod G a0 v0.1 v0.2.1 v0.2.2.1 v0.2.2.2.1 v0.2.2.2.2.1 v0.2.2.2.2.2.1 v0.2.2.2.2.2.2.1 v0.2.2.2.2.2.2.2.1 v0.2.2.2.2.2.2.2.2.1 v0.2.2.2.2.2.2.2.2.2.1 v0.2.2.2.2.2.2.2.2.2.2.1 v0.2.2.2.2.2.2.2.2.2.2.2.1 v0.2.2.2.2.2.2.2.2.2.2.2.2.1 v0.2.2.2.2.2.2.2.2.2.2.2.2.2.1 v0.2.2.2.2.2.2.2.2.2.2.2.2.2.2.1 v0.2.2.2.2.2.2.2.2.2.2.2.2.2.2.2.1 v0.2.2.2.2.2.2.2.2.2.2.2.2.2.2.2.2) 6 [(0, .ref a0.1), (2, .int x2), (3, .int x3)] [] := by
    intro kk
    induction kk with
    | zero => intro x2 x3 hw; exact hw.elim
    | succ n ih =>
      intro x2 x3 hw
      refine v_iload_n (pc2 := 7) S 2 dX9_hangs_6 rfl rfl rfl ?_
      refine v_bipush (v := 6) (pc2 := 9) S dX9_hangs_7 (by decide) rfl ?_
      refine v_icmp_ge (pc2 := 12) (tgt := 80) S dX9_hangs_9 (by decide) rfl (fun c2 => ?_) (fun c2 => ?_)
      · have hw := hw.1 c2
        refine v_iload_n (pc2 := 81) S 1 dX9_hangs_80 rfl rfl rfl ?_
        exact v_iret S ⟨x2, (), rfl, rfl, hw⟩ dX9_hangs_81
      · have hw := hw.2 c2
        refine v_iconst (v := 0) (pc2 := 13) S dX9_hangs_12 (by decide) rfl ?_
        refine v_istore (lv2 := [(0, .ref a0.1), (2, .int x2), (3, .int x3), (4, .int (0 : Int32))]) (pc2 := 15) S dX9_hangs_13 (by decide) [1, 2, 3, 0] rfl rfl ?_
        obtain ⟨kk, hw⟩ := hw
        exact L15 x3 (wp_X9_hangs_L6 v0 Q n) ih kk x2 (0 : Int32) hw
  refine v_iconst (v := 1) (pc2 := 1) S dX9_hangs_0 (by decide) rfl ?_
  refine v_iload_n (pc2 := 2) S 1 dX9_hangs_1 rfl rfl rfl ?_
  refine v_ishl (pc2 := 3) S dX9_hangs_2 rfl ?_
  refine v_nm (fun z1 ez1 => ?_)
  have hw := hw z1 ez1
  refine v_istore_n (lv2 := [(0, .ref a0.1), (1, .int i0), (2, .int z1)]) (pc2 := 4) S dX9_hangs_3 rfl (by decide) [1, 2, 0] rfl rfl ?_
  refine v_iconst (v := 0) (pc2 := 5) S dX9_hangs_4 (by decide) rfl ?_
  refine v_istore_n (lv2 := [(0, .ref a0.1), (1, .int i0), (2, .int z1), (3, .int (0 : Int32))]) (pc2 := 6) S dX9_hangs_5 rfl (by decide) [1, 2, 3, 0] rfl rfl ?_
  refine v_lv [(0, .ref a0.1), (2, .int z1), (3, .int (0 : Int32))] [0, 2, 3] rfl ?_
  obtain ⟨kk, hw⟩ := hw
  exact L6 kk z1 (0 : Int32) hw
set_option maxHeartbeats 4000000 in
set_option maxRecDepth 100000 in
theorem c_X9_size (l : Launch) (G : GG) (i0 : Int32) (Q : Int32 → Prop) (hw : wp_X9_size i0 Q) : Con l G yX9_size cX9_size 3 (some .int) { frames := 0, cells := 0, slots := 0, locals := 0 } [.int i0] ([]) (PI (fun _ : Unit => []) (fun r _ => Q r)) 0 0 := by
  refine con_of RX9 rfl (by decide) [(0, .int i0)] rfl (Nat.le_of_ble_eq_true rfl) ?_
  intro p e s m args below meth c S hname
  have L4 : ∀ (x0 : Int32) (kk : Nat) (x1 : Int32) (x2 : Int32), wp_X9_size_L4 x0 Q kk x1 x2 → V p l e { frames := 0, cells := 0, slots := 0, locals := 0 } s m args below meth c G (va_A ([]) s.heap.size) 3 0 0 (MQ below (EQ G ([]) s.heap.size (PI (fun _ : Unit => []) (fun r _ => Q r))) args s 0 0 (va_A ([]) s.heap.size)) ([]) 4 [(0, .int x0), (1, .int x1), (2, .int x2)] [] := by
    intro x0 kk
    induction kk with
    | zero => intro x1 x2 hw; exact hw.elim
    | succ n ih =>
      intro x1 x2 hw
      refine v_iload_n (pc2 := 5) S 2 dX9_size_4 rfl rfl rfl ?_
      refine v_bipush (v := 10) (pc2 := 7) S dX9_size_5 (by decide) rfl ?_
      refine v_icmp_ge (pc2 := 10) (tgt := 24) S dX9_size_7 (by decide) rfl (fun c1 => ?_) (fun c1 => ?_)
      · have hw := hw.1 c1
        refine v_iload_n (pc2 := 25) S 1 dX9_size_24 rfl rfl rfl ?_
        exact v_iret S ⟨x1, (), rfl, rfl, hw⟩ dX9_size_25
      · have hw := hw.2 c1
        refine v_iload_n (pc2 := 11) S 1 dX9_size_10 rfl rfl rfl ?_
        refine v_iload_n (pc2 := 12) S 0 dX9_size_11 rfl rfl rfl ?_
        refine v_iload_n (pc2 := 13) S 2 dX9_size_12 rfl rfl rfl ?_
        refine v_ishr (pc2 := 14) S dX9_size_13 rfl ?_
        refine v_iconst (v := 1) (pc2 := 15) S dX9_size_14 (by decide) rfl ?_
        refine v_iand (pc2 := 16) S dX9_size_15 rfl ?_
        refine v_iadd (pc2 := 17) S dX9_size_16 rfl ?_
        refine v_nm (fun z2 ez2 => ?_)
        have hw := hw z2 ez2
        refine v_istore_n (lv2 := [(0, .int x0), (1, .int z2), (2, .int x2)]) (pc2 := 18) S dX9_size_17 rfl (by decide) [1, 0, 2] rfl rfl ?_
        obtain ⟨z3, ez3⟩ : ∃ y : Int32, y = x2 + (1 : Int32) := ⟨_, rfl⟩
        have hw := hw z3 ez3
        refine v_iinc (v := z3) (lv2 := [(0, .int x0), (1, .int z2), (2, .int z3)]) (pc2 := 21) S 2 dX9_size_18 rfl (by rw [ez3]; rfl) (by decide) [1, 2, 0] rfl rfl ?_
        refine v_goto (tgt := 4) S dX9_size_21 (by decide) ?_
        exact ih z2 z3 hw
  refine v_iconst (v := 0) (pc2 := 1) S dX9_size_0 (by decide) rfl ?_
  refine v_istore_n (lv2 := [(0, .int i0), (1, .int (0 : Int32))]) (pc2 := 2) S dX9_size_1 rfl (by decide) [1, 0] rfl rfl ?_
  refine v_iconst (v := 0) (pc2 := 3) S dX9_size_2 (by decide) rfl ?_
  refine v_istore_n (lv2 := [(0, .int i0), (1, .int (0 : Int32)), (2, .int (0 : Int32))]) (pc2 := 4) S dX9_size_3 rfl (by decide) [1, 2, 0] rfl rfl ?_
  obtain ⟨kk, hw⟩ := hw
  exact L4 i0 kk (0 : Int32) (0 : Int32) hw
set_option maxHeartbeats 4000000 in
set_option maxRecDepth 100000 in
theorem c_X9_hall (l : Launch) (G : GG) (a0 : ModA) (v0 : ModV) (i0 : Int32) (i1 : Int32) (Q : Int32 → Prop) (hw : wp_X9_hall v0 i0 i1 Q) : Con l G yX9_hall cX9_hall 3 (some .int) { frames := 3, cells := 0, slots := 0, locals := 68 } [.ref a0.1, .int i0, .int i1] (wMod G a0 v0.1 v0.2.1 v0.2.2.1 v0.2.2.2.1 v0.2.2.2.2.1 v0.2.2.2.2.2.1 v0.2.2.2.2.2.2.1 v0.2.2.2.2.2.2.2.1 v0.2.2.2.2.2.2.2.2.1 v0.2.2.2.2.2.2.2.2.2.1 v0.2.2.2.2.2.2.2.2.2.2.1 v0.2.2.2.2.2.2.2.2.2.2.2.1 v0.2.2.2.2.2.2.2.2.2.2.2.2.1 v0.2.2.2.2.2.2.2.2.2.2.2.2.2.1 v0.2.2.2.2.2.2.2.2.2.2.2.2.2.2.1 v0.2.2.2.2.2.2.2.2.2.2.2.2.2.2.2.1 v0.2.2.2.2.2.2.2.2.2.2.2.2.2.2.2.2) (PI (fun _ : Unit => wMod G a0 v0.1 v0.2.1 v0.2.2.1 v0.2.2.2.1 v0.2.2.2.2.1 v0.2.2.2.2.2.1 v0.2.2.2.2.2.2.1 v0.2.2.2.2.2.2.2.1 v0.2.2.2.2.2.2.2.2.1 v0.2.2.2.2.2.2.2.2.2.1 v0.2.2.2.2.2.2.2.2.2.2.1 v0.2.2.2.2.2.2.2.2.2.2.2.1 v0.2.2.2.2.2.2.2.2.2.2.2.2.1 v0.2.2.2.2.2.2.2.2.2.2.2.2.2.1 v0.2.2.2.2.2.2.2.2.2.2.2.2.2.2.1 v0.2.2.2.2.2.2.2.2.2.2.2.2.2.2.2.1 v0.2.2.2.2.2.2.2.2.2.2.2.2.2.2.2.2) (fun r _ => Q r)) 0 0 := by
  refine con_of RX9 rfl (by decide) [(0, .ref a0.1), (1, .int i0), (2, .int i1)] rfl (Nat.le_of_ble_eq_true rfl) ?_
  intro p e s m args below meth c S hname
  refine v_iload_n (pc2 := 1) S 1 dX9_hall_0 rfl rfl rfl ?_
  refine v_callS (pc2 := 4) (As := [.int i0]) (rest := []) S (c_X9_isHall l G i0 _ hw) mf_X9_isHall u_967 u_968 rfl rfl ⟨rfl, rfl⟩ ⟨Nat.le_of_ble_eq_true rfl, Nat.le_of_ble_eq_true rfl⟩ ⟨Nat.le_of_ble_eq_true rfl, Nat.le_of_ble_eq_true rfl⟩ (Nat.le_of_ble_eq_true rfl) dX9_hall_1 (frM [] [] _) rfl (pb (fun r1 u2 br1 hw => ?_))
  refine v_to (wMod G a0 v0.1 v0.2.1 v0.2.2.1 v0.2.2.2.1 v0.2.2.2.2.1 v0.2.2.2.2.2.1 v0.2.2.2.2.2.2.1 v0.2.2.2.2.2.2.2.1 v0.2.2.2.2.2.2.2.2.1 v0.2.2.2.2.2.2.2.2.2.1 v0.2.2.2.2.2.2.2.2.2.2.1 v0.2.2.2.2.2.2.2.2.2.2.2.1 v0.2.2.2.2.2.2.2.2.2.2.2.2.1 v0.2.2.2.2.2.2.2.2.2.2.2.2.2.1 v0.2.2.2.2.2.2.2.2.2.2.2.2.2.2.1 v0.2.2.2.2.2.2.2.2.2.2.2.2.2.2.2.1 v0.2.2.2.2.2.2.2.2.2.2.2.2.2.2.2.2) 4 [(0, .ref a0.1), (1, .int i0), (2, .int i1)] _ [.int r1] rfl rfl rfl rfl ?_
  refine v_if_ne (pc2 := 7) (tgt := 9) S dX9_hall_4 (by decide) rfl (fun c3 => ?_) (fun c3 => ?_)
  · have hw := hw.1 c3
    refine v_iload_n (pc2 := 10) S 2 dX9_hall_9 rfl rfl rfl ?_
    by_cases c4 : i1 = (0 : Int32)
    · have hw := hw.1 c4
      refine v_tableIn (off := 30) (tgt := 40) S dX9_hall_10 (by rw [c4]; decide) (by rw [c4]; decide) (by rw [c4]; rfl) (by decide) ?_
      refine v_aload_n (pc2 := 41) S 0 dX9_hall_40 rfl rfl rfl ?_
      refine v_iload_n (pc2 := 42) S 1 dX9_hall_41 rfl rfl rfl ?_
      refine v_callV (pc2 := 45) (As := [.int i0]) (rest := []) S (c_X9_doorsOf l G a0 v0 i0 _ hw) mf_X9_doorsOf u_1038 u_1040 u_50 0 9 rfl rfl rfl rfl ⟨rfl, rfl⟩ ⟨Nat.le_of_ble_eq_true rfl, Nat.le_of_ble_eq_true rfl⟩ ⟨Nat.le_of_ble_eq_true rfl, Nat.le_of_ble_eq_true rfl⟩ (Nat.le_of_ble_eq_true rfl) dX9_hall_42 (frW _) rfl (pi (fun r5 u6 hw => ?_))
      refine v_to (wMod G a0 v0.1 v0.2.1 v0.2.2.1 v0.2.2.2.1 v0.2.2.2.2.1 v0.2.2.2.2.2.1 v0.2.2.2.2.2.2.1 v0.2.2.2.2.2.2.2.1 v0.2.2.2.2.2.2.2.2.1 v0.2.2.2.2.2.2.2.2.2.1 v0.2.2.2.2.2.2.2.2.2.2.1 v0.2.2.2.2.2.2.2.2.2.2.2.1 v0.2.2.2.2.2.2.2.2.2.2.2.2.1 v0.2.2.2.2.2.2.2.2.2.2.2.2.2.1 v0.2.2.2.2.2.2.2.2.2.2.2.2.2.2.1 v0.2.2.2.2.2.2.2.2.2.2.2.2.2.2.2.1 v0.2.2.2.2.2.2.2.2.2.2.2.2.2.2.2.2) 45 [(0, .ref a0.1), (1, .int i0), (2, .int i1)] _ [.int r5] rfl rfl rfl rfl ?_
      exact v_iret S ⟨r5, (), rfl, rfl, hw⟩ dX9_hall_45
    · have hw := hw.2
      by_cases c7 : i1 = (1 : Int32)
      · have hw := hw.1 c7
        refine v_tableIn (off := 36) (tgt := 46) S dX9_hall_10 (by rw [c7]; decide) (by rw [c7]; decide) (by rw [c7]; rfl) (by decide) ?_
        refine v_aload_n (pc2 := 47) S 0 dX9_hall_46 rfl rfl rfl ?_
        refine v_iload_n (pc2 := 48) S 1 dX9_hall_47 rfl rfl rfl ?_
        refine v_callV (pc2 := 51) (As := [.int i0]) (rest := []) S (c_X9_openIn l G a0 v0 i0 _ hw) mf_X9_openIn u_896 u_898 u_31 0 9 rfl rfl rfl rfl ⟨rfl, rfl⟩ ⟨Nat.le_of_ble_eq_true rfl, Nat.le_of_ble_eq_true rfl⟩ ⟨Nat.le_of_ble_eq_true rfl, Nat.le_of_ble_eq_true rfl⟩ (Nat.le_of_ble_eq_true rfl) dX9_hall_48 (frW _) rfl (pi (fun r8 u9 hw => ?_))
        refine v_to (wMod G a0 v0.1 v0.2.1 v0.2.2.1 v0.2.2.2.1 v0.2.2.2.2.1 v0.2.2.2.2.2.1 v0.2.2.2.2.2.2.1 v0.2.2.2.2.2.2.2.1 v0.2.2.2.2.2.2.2.2.1 v0.2.2.2.2.2.2.2.2.2.1 v0.2.2.2.2.2.2.2.2.2.2.1 v0.2.2.2.2.2.2.2.2.2.2.2.1 v0.2.2.2.2.2.2.2.2.2.2.2.2.1 v0.2.2.2.2.2.2.2.2.2.2.2.2.2.1 v0.2.2.2.2.2.2.2.2.2.2.2.2.2.2.1 v0.2.2.2.2.2.2.2.2.2.2.2.2.2.2.2.1 v0.2.2.2.2.2.2.2.2.2.2.2.2.2.2.2.2) 51 [(0, .ref a0.1), (1, .int i0), (2, .int i1)] _ [.int r8] rfl rfl rfl rfl ?_
        exact v_iret S ⟨r8, (), rfl, rfl, hw⟩ dX9_hall_51
      · have hw := hw.2
        by_cases c10 : i1 = (2 : Int32)
        · have hw := hw.1 c10
          refine v_tableIn (off := 42) (tgt := 52) S dX9_hall_10 (by rw [c10]; decide) (by rw [c10]; decide) (by rw [c10]; rfl) (by decide) ?_
          refine v_aload_n (pc2 := 53) S 0 dX9_hall_52 rfl rfl rfl ?_
          refine v_iload_n (pc2 := 54) S 1 dX9_hall_53 rfl rfl rfl ?_
          refine v_callV (pc2 := 57) (As := [.int i0]) (rest := []) S (c_X9_guestsIn l G a0 v0 i0 _ hw) mf_X9_guestsIn u_1042 u_1044 u_51 0 9 rfl rfl rfl rfl ⟨rfl, rfl⟩ ⟨Nat.le_of_ble_eq_true rfl, Nat.le_of_ble_eq_true rfl⟩ ⟨Nat.le_of_ble_eq_true rfl, Nat.le_of_ble_eq_true rfl⟩ (Nat.le_of_ble_eq_true rfl) dX9_hall_54 (frW _) rfl (pi (fun r11 u12 hw => ?_))
          refine v_to (wMod G a0 v0.1 v0.2.1 v0.2.2.1 v0.2.2.2.1 v0.2.2.2.2.1 v0.2.2.2.2.2.1 v0.2.2.2.2.2.2.1 v0.2.2.2.2.2.2.2.1 v0.2.2.2.2.2.2.2.2.1 v0.2.2.2.2.2.2.2.2.2.1 v0.2.2.2.2.2.2.2.2.2.2.1 v0.2.2.2.2.2.2.2.2.2.2.2.1 v0.2.2.2.2.2.2.2.2.2.2.2.2.1 v0.2.2.2.2.2.2.2.2.2.2.2.2.2.1 v0.2.2.2.2.2.2.2.2.2.2.2.2.2.2.1 v0.2.2.2.2.2.2.2.2.2.2.2.2.2.2.2.1 v0.2.2.2.2.2.2.2.2.2.2.2.2.2.2.2.2) 57 [(0, .ref a0.1), (1, .int i0), (2, .int i1)] _ [.int r11] rfl rfl rfl rfl ?_
          exact v_iret S ⟨r11, (), rfl, rfl, hw⟩ dX9_hall_57
        · have hw := hw.2
          by_cases c13 : i1 = (3 : Int32)
          · have hw := hw.1 c13
            refine v_tableIn (off := 48) (tgt := 58) S dX9_hall_10 (by rw [c13]; decide) (by rw [c13]; decide) (by rw [c13]; rfl) (by decide) ?_
            refine v_aload_n (pc2 := 59) S 0 dX9_hall_58 rfl rfl rfl ?_
            refine v_iload_n (pc2 := 60) S 1 dX9_hall_59 rfl rfl rfl ?_
            refine v_callV (pc2 := 63) (As := [.int i0]) (rest := []) S (c_X9_hangs l G a0 v0 i0 _ hw) mf_X9_hangs u_1046 u_1048 u_52 0 9 rfl rfl rfl rfl ⟨rfl, rfl⟩ ⟨Nat.le_of_ble_eq_true rfl, Nat.le_of_ble_eq_true rfl⟩ ⟨Nat.le_of_ble_eq_true rfl, Nat.le_of_ble_eq_true rfl⟩ (Nat.le_of_ble_eq_true rfl) dX9_hall_60 (frW _) rfl (pi (fun r14 u15 hw => ?_))
            refine v_to (wMod G a0 v0.1 v0.2.1 v0.2.2.1 v0.2.2.2.1 v0.2.2.2.2.1 v0.2.2.2.2.2.1 v0.2.2.2.2.2.2.1 v0.2.2.2.2.2.2.2.1 v0.2.2.2.2.2.2.2.2.1 v0.2.2.2.2.2.2.2.2.2.1 v0.2.2.2.2.2.2.2.2.2.2.1 v0.2.2.2.2.2.2.2.2.2.2.2.1 v0.2.2.2.2.2.2.2.2.2.2.2.2.1 v0.2.2.2.2.2.2.2.2.2.2.2.2.2.1 v0.2.2.2.2.2.2.2.2.2.2.2.2.2.2.1 v0.2.2.2.2.2.2.2.2.2.2.2.2.2.2.2.1 v0.2.2.2.2.2.2.2.2.2.2.2.2.2.2.2.2) 63 [(0, .ref a0.1), (1, .int i0), (2, .int i1)] _ [.int r14] rfl rfl rfl rfl ?_
            refine v_callS (pc2 := 66) (As := [.int r14]) (rest := []) S (c_X9_size l G r14 _ hw) mf_X9_size u_1050 u_1051 rfl rfl ⟨rfl, rfl⟩ ⟨Nat.le_of_ble_eq_true rfl, Nat.le_of_ble_eq_true rfl⟩ ⟨Nat.le_of_ble_eq_true rfl, Nat.le_of_ble_eq_true rfl⟩ (Nat.le_of_ble_eq_true rfl) dX9_hall_63 (frM [] [] _) rfl (pi (fun r16 u17 hw => ?_))
            refine v_to (wMod G a0 v0.1 v0.2.1 v0.2.2.1 v0.2.2.2.1 v0.2.2.2.2.1 v0.2.2.2.2.2.1 v0.2.2.2.2.2.2.1 v0.2.2.2.2.2.2.2.1 v0.2.2.2.2.2.2.2.2.1 v0.2.2.2.2.2.2.2.2.2.1 v0.2.2.2.2.2.2.2.2.2.2.1 v0.2.2.2.2.2.2.2.2.2.2.2.1 v0.2.2.2.2.2.2.2.2.2.2.2.2.1 v0.2.2.2.2.2.2.2.2.2.2.2.2.2.1 v0.2.2.2.2.2.2.2.2.2.2.2.2.2.2.1 v0.2.2.2.2.2.2.2.2.2.2.2.2.2.2.2.1 v0.2.2.2.2.2.2.2.2.2.2.2.2.2.2.2.2) 66 [(0, .ref a0.1), (1, .int i0), (2, .int i1)] _ [.int r16] rfl rfl rfl rfl ?_
            exact v_iret S ⟨r16, (), rfl, rfl, hw⟩ dX9_hall_66
          · have hw := hw.2
            have hw := hw c4 c7 c10 c13
            refine v_tableOut (tgt := 67) S dX9_hall_10 (sw_out3 c4 c7 c10 c13) (by decide) ?_
            refine v_iconst (v := -1) (pc2 := 68) S dX9_hall_67 (by decide) rfl ?_
            exact v_iret S ⟨(-1 : Int32), (), rfl, rfl, hw⟩ dX9_hall_68
  · have hw := hw.2 c3
    refine v_iconst (v := -1) (pc2 := 8) S dX9_hall_7 (by decide) rfl ?_
    exact v_iret S ⟨(-1 : Int32), (), rfl, rfl, hw⟩ dX9_hall_8
