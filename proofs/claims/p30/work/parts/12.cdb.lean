set_option maxHeartbeats 4000000 in
set_option maxRecDepth 100000 in
theorem c_X8_door (l : Launch) (G : GG) (a0 : CDA) (v0 : CDV) (i0 : Int32) (i1 : Int32) (Q : Int32 → Prop) (hw : wp_X8_door v0 i0 i1 Q) : Con l G yX8_door cX8_door 4 (some .int) { frames := 2, cells := 0, slots := 0, locals := 45 } [.ref a0.1, .int i0, .int i1] (wCD G a0 v0.1 v0.2.1 v0.2.2.1 v0.2.2.2.1 v0.2.2.2.2.1 v0.2.2.2.2.2.1 v0.2.2.2.2.2.2) (PI (fun _ : Unit => wCD G a0 v0.1 v0.2.1 v0.2.2.1 v0.2.2.2.1 v0.2.2.2.2.1 v0.2.2.2.2.2.1 v0.2.2.2.2.2.2) (fun r _ => Q r)) 0 0 := by
  refine con_of RX8 rfl (by decide) [(0, .ref a0.1), (1, .int i0), (2, .int i1)] rfl (Nat.le_of_ble_eq_true rfl) ?_
  intro p e s m args below meth c S hname
  refine v_iload_n (pc2 := 1) S 1 dX8_door_0 rfl rfl rfl ?_
  refine v_callS (pc2 := 4) (As := [.int i0]) (rest := []) S (c_X8_isDoor l G i0 _ hw) mf_X8_isDoor u_488 u_489 rfl rfl ⟨rfl, rfl⟩ ⟨Nat.le_of_ble_eq_true rfl, Nat.le_of_ble_eq_true rfl⟩ ⟨Nat.le_of_ble_eq_true rfl, Nat.le_of_ble_eq_true rfl⟩ (Nat.le_of_ble_eq_true rfl) dX8_door_1 (frM [] [] _) rfl (pb (fun r1 u2 br1 hw => ?_))
  refine v_to (wCD G a0 v0.1 v0.2.1 v0.2.2.1 v0.2.2.2.1 v0.2.2.2.2.1 v0.2.2.2.2.2.1 v0.2.2.2.2.2.2) 4 [(0, .ref a0.1), (1, .int i0), (2, .int i1)] _ [.int r1] rfl rfl rfl rfl ?_
  refine v_if_ne (pc2 := 7) (tgt := 9) S dX8_door_4 (by decide) rfl (fun c3 => ?_) (fun c3 => ?_)
  · have hw := hw.1 c3
    refine v_aload_n (pc2 := 10) S 0 dX8_door_9 rfl rfl rfl ?_
    refine v_get (v := .ref a0.2.1.1) (pc2 := 13) S gf_X8_12 0 rfl rfl dX8_door_10 rfl ?_
    refine v_getN (v := .ref a0.2.1.2.1.1) (pc2 := 16) S gf_X8_66 62 rfl rfl dX8_door_13 rfl ?_
    refine v_astore_n (lv2 := [(0, .ref a0.1), (1, .int i0), (2, .int i1), (3, .ref a0.2.1.2.1.1)]) (pc2 := 17) S dX8_door_16 rfl (by decide) [1, 2, 3, 0] rfl rfl ?_
    refine v_iload_n (pc2 := 18) S 2 dX8_door_17 rfl rfl rfl ?_
    by_cases c4 : i1 = (0 : Int32)
    · have hw := hw.1 c4
      refine v_tableIn (off := 54) (tgt := 72) S dX8_door_18 (by rw [c4]; decide) (by rw [c4]; decide) (by rw [c4]; rfl) (by decide) ?_
      refine v_aload_n (pc2 := 73) S 0 dX8_door_72 rfl rfl rfl ?_
      refine v_get (v := .ref a0.2.1.1) (pc2 := 76) S gf_X8_12 0 rfl rfl dX8_door_73 rfl ?_
      refine v_iload_n (pc2 := 77) S 1 dX8_door_76 rfl rfl rfl ?_
      refine v_callV (pc2 := 80) (As := [.int i0]) (rest := []) S (c_X5_isOpen l G a0.2.1 v0.1 i0 _ hw) mf_X5_isOpen u_491 u_283 u_284 0 5 rfl rfl rfl rfl ⟨rfl, rfl⟩ ⟨Nat.le_of_ble_eq_true rfl, Nat.le_of_ble_eq_true rfl⟩ ⟨Nat.le_of_ble_eq_true rfl, Nat.le_of_ble_eq_true rfl⟩ (Nat.le_of_ble_eq_true rfl) dX8_door_77 (frM (([(a0.1, .inr (8, [.ref a0.2.1.1, .ref a0.2.2.1.1, .ref a0.2.2.2.1.1, .int v0.2.2.2.1, .ref a0.2.2.2.2.1.1, .ref a0.2.2.2.2.2.1, .ref a0.2.2.2.2.2.2.1]))] : va_W) ++ ((wPad G a0.2.2.2.2.1 v0.2.2.2.2.1.1 v0.2.2.2.2.1.2) ++ ((wStop G a0.2.2.2.2.2.1 v0.2.2.2.2.2.1.1 v0.2.2.2.2.2.1.2.1 v0.2.2.2.2.2.1.2.2) ++ (wHist G a0.2.2.1 v0.2.1.1 v0.2.1.2.1 v0.2.1.2.2)))) (wSt G a0.2.1 v0.1.1 v0.1.2.1 v0.1.2.2.1 v0.1.2.2.2) ((wSt G a0.2.2.2.1 v0.2.2.1.1 v0.2.2.1.2.1 v0.2.2.1.2.2.1 v0.2.2.1.2.2.2) ++ (wWays G a0.2.2.2.2.2.2 v0.2.2.2.2.2.2.1 v0.2.2.2.2.2.2.2.1 v0.2.2.2.2.2.2.2.2))) rfl (pb (fun r5 u6 br5 hw => ?_))
      refine v_to (wCD G a0 v0.1 v0.2.1 v0.2.2.1 v0.2.2.2.1 v0.2.2.2.2.1 v0.2.2.2.2.2.1 v0.2.2.2.2.2.2) 80 [(0, .ref a0.1), (1, .int i0), (2, .int i1), (3, .ref a0.2.1.2.1.1)] _ [.int r5] rfl rfl rfl rfl ?_
      refine v_if_eq (pc2 := 83) (tgt := 87) S dX8_door_80 (by decide) rfl (fun c7 => ?_) (fun c7 => ?_)
      · have hw := hw.1 c7
        refine v_iconst (v := 0) (pc2 := 88) S dX8_door_87 (by decide) rfl ?_
        exact v_iret S ⟨(0 : Int32), (), rfl, rfl, hw⟩ dX8_door_88
      · have hw := hw.2 c7
        refine v_iconst (v := 1) (pc2 := 84) S dX8_door_83 (by decide) rfl ?_
        refine v_goto (tgt := 88) S dX8_door_84 (by decide) ?_
        exact v_iret S ⟨(1 : Int32), (), rfl, rfl, hw⟩ dX8_door_88
    · have hw := hw.2
      by_cases c8 : i1 = (1 : Int32)
      · have hw := hw.1 c8
        refine v_tableIn (off := 71) (tgt := 89) S dX8_door_18 (by rw [c8]; decide) (by rw [c8]; decide) (by rw [c8]; rfl) (by decide) ?_
        refine v_aload_n (pc2 := 90) S 3 dX8_door_89 rfl rfl rfl ?_
        refine v_iload_n (pc2 := 91) S 1 dX8_door_90 rfl rfl rfl ?_
        refine v_callV (pc2 := 94) (As := [.int i0]) (rest := []) S (c_X3_lesserHall l G a0.2.1.2.1 v0.1.1 i0 _ hw) mf_X3_lesserHall u_492 u_387 u_388 0 3 rfl rfl rfl rfl ⟨rfl, rfl⟩ ⟨Nat.le_of_ble_eq_true rfl, Nat.le_of_ble_eq_true rfl⟩ ⟨Nat.le_of_ble_eq_true rfl, Nat.le_of_ble_eq_true rfl⟩ (Nat.le_of_ble_eq_true rfl) dX8_door_91 (frM (([(a0.1, .inr (8, [.ref a0.2.1.1, .ref a0.2.2.1.1, .ref a0.2.2.2.1.1, .int v0.2.2.2.1, .ref a0.2.2.2.2.1.1, .ref a0.2.2.2.2.2.1, .ref a0.2.2.2.2.2.2.1]))] : va_W) ++ ((wPad G a0.2.2.2.2.1 v0.2.2.2.2.1.1 v0.2.2.2.2.1.2) ++ ((wStop G a0.2.2.2.2.2.1 v0.2.2.2.2.2.1.1 v0.2.2.2.2.2.1.2.1 v0.2.2.2.2.2.1.2.2) ++ ((wHist G a0.2.2.1 v0.2.1.1 v0.2.1.2.1 v0.2.1.2.2) ++ (([(a0.2.1.1, .inr (5, [.ref a0.2.1.2.1.1, .ref a0.2.1.2.2.1.1, .ref a0.2.1.2.2.2.1, .int v0.1.2.2.2]))] : va_W)))))) (wLoom G a0.2.1.2.1 v0.1.1.1 v0.1.1.2.1 v0.1.1.2.2.1 v0.1.1.2.2.2.1 v0.1.1.2.2.2.2.1 v0.1.1.2.2.2.2.2) ((wGu G a0.2.1.2.2.1 v0.1.2.1.1 v0.1.2.1.2.1 v0.1.2.1.2.2) ++ ((wAc G a0.2.1.2.2.2 v0.1.2.2.1.1 v0.1.2.2.1.2.1 v0.1.2.2.1.2.2.1 v0.1.2.2.1.2.2.2.1 v0.1.2.2.1.2.2.2.2.1 v0.1.2.2.1.2.2.2.2.2.1 v0.1.2.2.1.2.2.2.2.2.2) ++ ((wSt G a0.2.2.2.1 v0.2.2.1.1 v0.2.2.1.2.1 v0.2.2.1.2.2.1 v0.2.2.1.2.2.2) ++ (wWays G a0.2.2.2.2.2.2 v0.2.2.2.2.2.2.1 v0.2.2.2.2.2.2.2.1 v0.2.2.2.2.2.2.2.2))))) rfl (pi (fun r9 u10 hw => ?_))
        refine v_to (wCD G a0 v0.1 v0.2.1 v0.2.2.1 v0.2.2.2.1 v0.2.2.2.2.1 v0.2.2.2.2.2.1 v0.2.2.2.2.2.2) 94 [(0, .ref a0.1), (1, .int i0), (2, .int i1), (3, .ref a0.2.1.2.1.1)] _ [.int r9] rfl rfl rfl rfl ?_
        exact v_iret S ⟨r9, (), rfl, rfl, hw⟩ dX8_door_94
      · have hw := hw.2
        by_cases c11 : i1 = (2 : Int32)
        · have hw := hw.1 c11
          refine v_tableIn (off := 77) (tgt := 95) S dX8_door_18 (by rw [c11]; decide) (by rw [c11]; decide) (by rw [c11]; rfl) (by decide) ?_
          refine v_aload_n (pc2 := 96) S 3 dX8_door_95 rfl rfl rfl ?_
          refine v_iload_n (pc2 := 97) S 1 dX8_door_96 rfl rfl rfl ?_
          refine v_callV (pc2 := 100) (As := [.int i0]) (rest := []) S (c_X3_greaterHall l G a0.2.1.2.1 v0.1.1 i0 _ hw) mf_X3_greaterHall u_493 u_391 u_392 0 3 rfl rfl rfl rfl ⟨rfl, rfl⟩ ⟨Nat.le_of_ble_eq_true rfl, Nat.le_of_ble_eq_true rfl⟩ ⟨Nat.le_of_ble_eq_true rfl, Nat.le_of_ble_eq_true rfl⟩ (Nat.le_of_ble_eq_true rfl) dX8_door_97 (frM (([(a0.1, .inr (8, [.ref a0.2.1.1, .ref a0.2.2.1.1, .ref a0.2.2.2.1.1, .int v0.2.2.2.1, .ref a0.2.2.2.2.1.1, .ref a0.2.2.2.2.2.1, .ref a0.2.2.2.2.2.2.1]))] : va_W) ++ ((wPad G a0.2.2.2.2.1 v0.2.2.2.2.1.1 v0.2.2.2.2.1.2) ++ ((wStop G a0.2.2.2.2.2.1 v0.2.2.2.2.2.1.1 v0.2.2.2.2.2.1.2.1 v0.2.2.2.2.2.1.2.2) ++ ((wHist G a0.2.2.1 v0.2.1.1 v0.2.1.2.1 v0.2.1.2.2) ++ (([(a0.2.1.1, .inr (5, [.ref a0.2.1.2.1.1, .ref a0.2.1.2.2.1.1, .ref a0.2.1.2.2.2.1, .int v0.1.2.2.2]))] : va_W)))))) (wLoom G a0.2.1.2.1 v0.1.1.1 v0.1.1.2.1 v0.1.1.2.2.1 v0.1.1.2.2.2.1 v0.1.1.2.2.2.2.1 v0.1.1.2.2.2.2.2) ((wGu G a0.2.1.2.2.1 v0.1.2.1.1 v0.1.2.1.2.1 v0.1.2.1.2.2) ++ ((wAc G a0.2.1.2.2.2 v0.1.2.2.1.1 v0.1.2.2.1.2.1 v0.1.2.2.1.2.2.1 v0.1.2.2.1.2.2.2.1 v0.1.2.2.1.2.2.2.2.1 v0.1.2.2.1.2.2.2.2.2.1 v0.1.2.2.1.2.2.2.2.2.2) ++ ((wSt G a0.2.2.2.1 v0.2.2.1.1 v0.2.2.1.2.1 v0.2.2.1.2.2.1 v0.2.2.1.2.2.2) ++ (wWays G a0.2.2.2.2.2.2 v0.2.2.2.2.2.2.1 v0.2.2.2.2.2.2.2.1 v0.2.2.2.2.2.2.2.2))))) rfl (pi (fun r12 u13 hw => ?_))
          refine v_to (wCD G a0 v0.1 v0.2.1 v0.2.2.1 v0.2.2.2.1 v0.2.2.2.2.1 v0.2.2.2.2.2.1 v0.2.2.2.2.2.2) 100 [(0, .ref a0.1), (1, .int i0), (2, .int i1), (3, .ref a0.2.1.2.1.1)] _ [.int r12] rfl rfl rfl rfl ?_
          exact v_iret S ⟨r12, (), rfl, rfl, hw⟩ dX8_door_100
        · have hw := hw.2
          by_cases c14 : i1 = (3 : Int32)
          · have hw := hw.1 c14
            refine v_tableIn (off := 83) (tgt := 101) S dX8_door_18 (by rw [c14]; decide) (by rw [c14]; decide) (by rw [c14]; rfl) (by decide) ?_
            refine v_aload_n (pc2 := 102) S 3 dX8_door_101 rfl rfl rfl ?_
            refine v_iload_n (pc2 := 103) S 1 dX8_door_102 rfl rfl rfl ?_
            refine v_iconst (v := 0) (pc2 := 104) S dX8_door_103 (by decide) rfl ?_
            refine v_callV (pc2 := 107) (As := [.int i0, .int (0 : Int32)]) (rest := []) S (c_X3_cordOf l G a0.2.1.2.1 v0.1.1 i0 (0 : Int32) _ hw) mf_X3_cordOf u_494 u_495 u_496 0 3 rfl rfl rfl rfl ⟨rfl, rfl⟩ ⟨Nat.le_of_ble_eq_true rfl, Nat.le_of_ble_eq_true rfl⟩ ⟨Nat.le_of_ble_eq_true rfl, Nat.le_of_ble_eq_true rfl⟩ (Nat.le_of_ble_eq_true rfl) dX8_door_104 (frM (([(a0.1, .inr (8, [.ref a0.2.1.1, .ref a0.2.2.1.1, .ref a0.2.2.2.1.1, .int v0.2.2.2.1, .ref a0.2.2.2.2.1.1, .ref a0.2.2.2.2.2.1, .ref a0.2.2.2.2.2.2.1]))] : va_W) ++ ((wPad G a0.2.2.2.2.1 v0.2.2.2.2.1.1 v0.2.2.2.2.1.2) ++ ((wStop G a0.2.2.2.2.2.1 v0.2.2.2.2.2.1.1 v0.2.2.2.2.2.1.2.1 v0.2.2.2.2.2.1.2.2) ++ ((wHist G a0.2.2.1 v0.2.1.1 v0.2.1.2.1 v0.2.1.2.2) ++ (([(a0.2.1.1, .inr (5, [.ref a0.2.1.2.1.1, .ref a0.2.1.2.2.1.1, .ref a0.2.1.2.2.2.1, .int v0.1.2.2.2]))] : va_W)))))) (wLoom G a0.2.1.2.1 v0.1.1.1 v0.1.1.2.1 v0.1.1.2.2.1 v0.1.1.2.2.2.1 v0.1.1.2.2.2.2.1 v0.1.1.2.2.2.2.2) ((wGu G a0.2.1.2.2.1 v0.1.2.1.1 v0.1.2.1.2.1 v0.1.2.1.2.2) ++ ((wAc G a0.2.1.2.2.2 v0.1.2.2.1.1 v0.1.2.2.1.2.1 v0.1.2.2.1.2.2.1 v0.1.2.2.1.2.2.2.1 v0.1.2.2.1.2.2.2.2.1 v0.1.2.2.1.2.2.2.2.2.1 v0.1.2.2.1.2.2.2.2.2.2) ++ ((wSt G a0.2.2.2.1 v0.2.2.1.1 v0.2.2.1.2.1 v0.2.2.1.2.2.1 v0.2.2.1.2.2.2) ++ (wWays G a0.2.2.2.2.2.2 v0.2.2.2.2.2.2.1 v0.2.2.2.2.2.2.2.1 v0.2.2.2.2.2.2.2.2))))) rfl (pi (fun r15 u16 hw => ?_))
            refine v_to (wCD G a0 v0.1 v0.2.1 v0.2.2.1 v0.2.2.2.1 v0.2.2.2.2.1 v0.2.2.2.2.2.1 v0.2.2.2.2.2.2) 107 [(0, .ref a0.1), (1, .int i0), (2, .int i1), (3, .ref a0.2.1.2.1.1)] _ [.int r15] rfl rfl rfl rfl ?_
            refine v_callS (pc2 := 110) (As := [.int r15]) (rest := []) S (c_X8_doorOrNotFound l G r15 _ hw) mf_X8_doorOrNotFound u_498 u_499 rfl rfl ⟨rfl, rfl⟩ ⟨Nat.le_of_ble_eq_true rfl, Nat.le_of_ble_eq_true rfl⟩ ⟨Nat.le_of_ble_eq_true rfl, Nat.le_of_ble_eq_true rfl⟩ (Nat.le_of_ble_eq_true rfl) dX8_door_107 (frM [] [] _) rfl (pi (fun r17 u18 hw => ?_))
            refine v_to (wCD G a0 v0.1 v0.2.1 v0.2.2.1 v0.2.2.2.1 v0.2.2.2.2.1 v0.2.2.2.2.2.1 v0.2.2.2.2.2.2) 110 [(0, .ref a0.1), (1, .int i0), (2, .int i1), (3, .ref a0.2.1.2.1.1)] _ [.int r17] rfl rfl rfl rfl ?_
            exact v_iret S ⟨r17, (), rfl, rfl, hw⟩ dX8_door_110
          · have hw := hw.2
            by_cases c19 : i1 = (4 : Int32)
            · have hw := hw.1 c19
              refine v_tableIn (off := 93) (tgt := 111) S dX8_door_18 (by rw [c19]; decide) (by rw [c19]; decide) (by rw [c19]; rfl) (by decide) ?_
              refine v_aload_n (pc2 := 112) S 3 dX8_door_111 rfl rfl rfl ?_
              refine v_iload_n (pc2 := 113) S 1 dX8_door_112 rfl rfl rfl ?_
              refine v_iconst (v := 1) (pc2 := 114) S dX8_door_113 (by decide) rfl ?_
              refine v_callV (pc2 := 117) (As := [.int i0, .int (1 : Int32)]) (rest := []) S (c_X3_cordOf l G a0.2.1.2.1 v0.1.1 i0 (1 : Int32) _ hw) mf_X3_cordOf u_494 u_495 u_496 0 3 rfl rfl rfl rfl ⟨rfl, rfl⟩ ⟨Nat.le_of_ble_eq_true rfl, Nat.le_of_ble_eq_true rfl⟩ ⟨Nat.le_of_ble_eq_true rfl, Nat.le_of_ble_eq_true rfl⟩ (Nat.le_of_ble_eq_true rfl) dX8_door_114 (frM (([(a0.1, .inr (8, [.ref a0.2.1.1, .ref a0.2.2.1.1, .ref a0.2.2.2.1.1, .int v0.2.2.2.1, .ref a0.2.2.2.2.1.1, .ref a0.2.2.2.2.2.1, .ref a0.2.2.2.2.2.2.1]))] : va_W) ++ ((wPad G a0.2.2.2.2.1 v0.2.2.2.2.1.1 v0.2.2.2.2.1.2) ++ ((wStop G a0.2.2.2.2.2.1 v0.2.2.2.2.2.1.1 v0.2.2.2.2.2.1.2.1 v0.2.2.2.2.2.1.2.2) ++ ((wHist G a0.2.2.1 v0.2.1.1 v0.2.1.2.1 v0.2.1.2.2) ++ (([(a0.2.1.1, .inr (5, [.ref a0.2.1.2.1.1, .ref a0.2.1.2.2.1.1, .ref a0.2.1.2.2.2.1, .int v0.1.2.2.2]))] : va_W)))))) (wLoom G a0.2.1.2.1 v0.1.1.1 v0.1.1.2.1 v0.1.1.2.2.1 v0.1.1.2.2.2.1 v0.1.1.2.2.2.2.1 v0.1.1.2.2.2.2.2) ((wGu G a0.2.1.2.2.1 v0.1.2.1.1 v0.1.2.1.2.1 v0.1.2.1.2.2) ++ ((wAc G a0.2.1.2.2.2 v0.1.2.2.1.1 v0.1.2.2.1.2.1 v0.1.2.2.1.2.2.1 v0.1.2.2.1.2.2.2.1 v0.1.2.2.1.2.2.2.2.1 v0.1.2.2.1.2.2.2.2.2.1 v0.1.2.2.1.2.2.2.2.2.2) ++ ((wSt G a0.2.2.2.1 v0.2.2.1.1 v0.2.2.1.2.1 v0.2.2.1.2.2.1 v0.2.2.1.2.2.2) ++ (wWays G a0.2.2.2.2.2.2 v0.2.2.2.2.2.2.1 v0.2.2.2.2.2.2.2.1 v0.2.2.2.2.2.2.2.2))))) rfl (pi (fun r20 u21 hw => ?_))
              refine v_to (wCD G a0 v0.1 v0.2.1 v0.2.2.1 v0.2.2.2.1 v0.2.2.2.2.1 v0.2.2.2.2.2.1 v0.2.2.2.2.2.2) 117 [(0, .ref a0.1), (1, .int i0), (2, .int i1), (3, .ref a0.2.1.2.1.1)] _ [.int r20] rfl rfl rfl rfl ?_
              refine v_callS (pc2 := 120) (As := [.int r20]) (rest := []) S (c_X8_doorOrNotFound l G r20 _ hw) mf_X8_doorOrNotFound u_498 u_499 rfl rfl ⟨rfl, rfl⟩ ⟨Nat.le_of_ble_eq_true rfl, Nat.le_of_ble_eq_true rfl⟩ ⟨Nat.le_of_ble_eq_true rfl, Nat.le_of_ble_eq_true rfl⟩ (Nat.le_of_ble_eq_true rfl) dX8_door_117 (frM [] [] _) rfl (pi (fun r22 u23 hw => ?_))
              refine v_to (wCD G a0 v0.1 v0.2.1 v0.2.2.1 v0.2.2.2.1 v0.2.2.2.2.1 v0.2.2.2.2.2.1 v0.2.2.2.2.2.2) 120 [(0, .ref a0.1), (1, .int i0), (2, .int i1), (3, .ref a0.2.1.2.1.1)] _ [.int r22] rfl rfl rfl rfl ?_
              exact v_iret S ⟨r22, (), rfl, rfl, hw⟩ dX8_door_120
            · have hw := hw.2
              by_cases c24 : i1 = (5 : Int32)
              · have hw := hw.1 c24
                refine v_tableIn (off := 103) (tgt := 121) S dX8_door_18 (by rw [c24]; decide) (by rw [c24]; decide) (by rw [c24]; rfl) (by decide) ?_
                refine v_aload_n (pc2 := 122) S 3 dX8_door_121 rfl rfl rfl ?_
                refine v_aload_n (pc2 := 123) S 0 dX8_door_122 rfl rfl rfl ?_
                refine v_get (v := .ref a0.2.1.1) (pc2 := 126) S gf_X8_12 0 rfl rfl dX8_door_123 rfl ?_
                refine v_getN (v := .int v0.1.2.2.2) (pc2 := 129) S gf_X8_167 62 rfl rfl dX8_door_126 rfl ?_
                refine v_callV (pc2 := 132) (As := [.int v0.1.2.2.2]) (rest := []) S (c_X3_heldBy l G a0.2.1.2.1 v0.1.1 v0.1.2.2.2 _ hw) mf_X3_heldBy u_411 u_287 u_288 0 3 rfl rfl rfl rfl ⟨rfl, rfl⟩ ⟨Nat.le_of_ble_eq_true rfl, Nat.le_of_ble_eq_true rfl⟩ ⟨Nat.le_of_ble_eq_true rfl, Nat.le_of_ble_eq_true rfl⟩ (Nat.le_of_ble_eq_true rfl) dX8_door_129 (frM (([(a0.1, .inr (8, [.ref a0.2.1.1, .ref a0.2.2.1.1, .ref a0.2.2.2.1.1, .int v0.2.2.2.1, .ref a0.2.2.2.2.1.1, .ref a0.2.2.2.2.2.1, .ref a0.2.2.2.2.2.2.1]))] : va_W) ++ ((wPad G a0.2.2.2.2.1 v0.2.2.2.2.1.1 v0.2.2.2.2.1.2) ++ ((wStop G a0.2.2.2.2.2.1 v0.2.2.2.2.2.1.1 v0.2.2.2.2.2.1.2.1 v0.2.2.2.2.2.1.2.2) ++ ((wHist G a0.2.2.1 v0.2.1.1 v0.2.1.2.1 v0.2.1.2.2) ++ (([(a0.2.1.1, .inr (5, [.ref a0.2.1.2.1.1, .ref a0.2.1.2.2.1.1, .ref a0.2.1.2.2.2.1, .int v0.1.2.2.2]))] : va_W)))))) (wLoom G a0.2.1.2.1 v0.1.1.1 v0.1.1.2.1 v0.1.1.2.2.1 v0.1.1.2.2.2.1 v0.1.1.2.2.2.2.1 v0.1.1.2.2.2.2.2) ((wGu G a0.2.1.2.2.1 v0.1.2.1.1 v0.1.2.1.2.1 v0.1.2.1.2.2) ++ ((wAc G a0.2.1.2.2.2 v0.1.2.2.1.1 v0.1.2.2.1.2.1 v0.1.2.2.1.2.2.1 v0.1.2.2.1.2.2.2.1 v0.1.2.2.1.2.2.2.2.1 v0.1.2.2.1.2.2.2.2.2.1 v0.1.2.2.1.2.2.2.2.2.2) ++ ((wSt G a0.2.2.2.1 v0.2.2.1.1 v0.2.2.1.2.1 v0.2.2.1.2.2.1 v0.2.2.1.2.2.2) ++ (wWays G a0.2.2.2.2.2.2 v0.2.2.2.2.2.2.1 v0.2.2.2.2.2.2.2.1 v0.2.2.2.2.2.2.2.2))))) rfl (pi (fun r25 u26 hw => ?_))
                refine v_to (wCD G a0 v0.1 v0.2.1 v0.2.2.1 v0.2.2.2.1 v0.2.2.2.2.1 v0.2.2.2.2.2.1 v0.2.2.2.2.2.2) 132 [(0, .ref a0.1), (1, .int i0), (2, .int i1), (3, .ref a0.2.1.2.1.1)] _ [.int r25] rfl rfl rfl rfl ?_
                refine v_iload_n (pc2 := 133) S 1 dX8_door_132 rfl rfl rfl ?_
                refine v_callS (pc2 := 136) (As := [.int r25, .int i0]) (rest := []) S (c_X8_has l G r25 i0 _ hw) mf_X8_has u_501 u_276 rfl rfl ⟨rfl, rfl⟩ ⟨Nat.le_of_ble_eq_true rfl, Nat.le_of_ble_eq_true rfl⟩ ⟨Nat.le_of_ble_eq_true rfl, Nat.le_of_ble_eq_true rfl⟩ (Nat.le_of_ble_eq_true rfl) dX8_door_133 (frM [] [] _) rfl (pb (fun r27 u28 br27 hw => ?_))
                refine v_to (wCD G a0 v0.1 v0.2.1 v0.2.2.1 v0.2.2.2.1 v0.2.2.2.2.1 v0.2.2.2.2.2.1 v0.2.2.2.2.2.2) 136 [(0, .ref a0.1), (1, .int i0), (2, .int i1), (3, .ref a0.2.1.2.1.1)] _ [.int r27] rfl rfl rfl rfl ?_
                refine v_if_eq (pc2 := 139) (tgt := 143) S dX8_door_136 (by decide) rfl (fun c29 => ?_) (fun c29 => ?_)
                · have hw := hw.1 c29
                  refine v_iconst (v := 0) (pc2 := 144) S dX8_door_143 (by decide) rfl ?_
                  exact v_iret S ⟨(0 : Int32), (), rfl, rfl, hw⟩ dX8_door_144
                · have hw := hw.2 c29
                  refine v_iconst (v := 1) (pc2 := 140) S dX8_door_139 (by decide) rfl ?_
                  refine v_goto (tgt := 144) S dX8_door_140 (by decide) ?_
                  exact v_iret S ⟨(1 : Int32), (), rfl, rfl, hw⟩ dX8_door_144
              · have hw := hw.2
                by_cases c30 : i1 = (6 : Int32)
                · have hw := hw.1 c30
                  refine v_tableIn (off := 127) (tgt := 145) S dX8_door_18 (by rw [c30]; decide) (by rw [c30]; decide) (by rw [c30]; rfl) (by decide) ?_
                  refine v_aload_n (pc2 := 146) S 3 dX8_door_145 rfl rfl rfl ?_
                  refine v_iload_n (pc2 := 147) S 1 dX8_door_146 rfl rfl rfl ?_
                  refine v_sipush (v := 1023) (pc2 := 150) S dX8_door_147 (by decide) rfl ?_
                  refine v_callV (pc2 := 153) (As := [.int i0, .int (1023 : Int32)]) (rest := []) S (c_X3_cordsTo l G a0.2.1.2.1 v0.1.1 i0 (1023 : Int32) _ hw) mf_X3_cordsTo u_502 u_503 u_504 0 3 rfl rfl rfl rfl ⟨rfl, rfl⟩ ⟨Nat.le_of_ble_eq_true rfl, Nat.le_of_ble_eq_true rfl⟩ ⟨Nat.le_of_ble_eq_true rfl, Nat.le_of_ble_eq_true rfl⟩ (Nat.le_of_ble_eq_true rfl) dX8_door_150 (frM (([(a0.1, .inr (8, [.ref a0.2.1.1, .ref a0.2.2.1.1, .ref a0.2.2.2.1.1, .int v0.2.2.2.1, .ref a0.2.2.2.2.1.1, .ref a0.2.2.2.2.2.1, .ref a0.2.2.2.2.2.2.1]))] : va_W) ++ ((wPad G a0.2.2.2.2.1 v0.2.2.2.2.1.1 v0.2.2.2.2.1.2) ++ ((wStop G a0.2.2.2.2.2.1 v0.2.2.2.2.2.1.1 v0.2.2.2.2.2.1.2.1 v0.2.2.2.2.2.1.2.2) ++ ((wHist G a0.2.2.1 v0.2.1.1 v0.2.1.2.1 v0.2.1.2.2) ++ (([(a0.2.1.1, .inr (5, [.ref a0.2.1.2.1.1, .ref a0.2.1.2.2.1.1, .ref a0.2.1.2.2.2.1, .int v0.1.2.2.2]))] : va_W)))))) (wLoom G a0.2.1.2.1 v0.1.1.1 v0.1.1.2.1 v0.1.1.2.2.1 v0.1.1.2.2.2.1 v0.1.1.2.2.2.2.1 v0.1.1.2.2.2.2.2) ((wGu G a0.2.1.2.2.1 v0.1.2.1.1 v0.1.2.1.2.1 v0.1.2.1.2.2) ++ ((wAc G a0.2.1.2.2.2 v0.1.2.2.1.1 v0.1.2.2.1.2.1 v0.1.2.2.1.2.2.1 v0.1.2.2.1.2.2.2.1 v0.1.2.2.1.2.2.2.2.1 v0.1.2.2.1.2.2.2.2.2.1 v0.1.2.2.1.2.2.2.2.2.2) ++ ((wSt G a0.2.2.2.1 v0.2.2.1.1 v0.2.2.1.2.1 v0.2.2.1.2.2.1 v0.2.2.1.2.2.2) ++ (wWays G a0.2.2.2.2.2.2 v0.2.2.2.2.2.2.1 v0.2.2.2.2.2.2.2.1 v0.2.2.2.2.2.2.2.2))))) rfl (pi (fun r31 u32 hw => ?_))
                  refine v_to (wCD G a0 v0.1 v0.2.1 v0.2.2.1 v0.2.2.2.1 v0.2.2.2.2.1 v0.2.2.2.2.2.1 v0.2.2.2.2.2.2) 153 [(0, .ref a0.1), (1, .int i0), (2, .int i1), (3, .ref a0.2.1.2.1.1)] _ [.int r31] rfl rfl rfl rfl ?_
                  exact v_iret S ⟨r31, (), rfl, rfl, hw⟩ dX8_door_153
                · have hw := hw.2
                  by_cases c33 : i1 = (7 : Int32)
                  · have hw := hw.1 c33
                    refine v_tableIn (off := 136) (tgt := 154) S dX8_door_18 (by rw [c33]; decide) (by rw [c33]; decide) (by rw [c33]; rfl) (by decide) ?_
                    refine v_aload_n (pc2 := 155) S 3 dX8_door_154 rfl rfl rfl ?_
                    refine v_iload_n (pc2 := 156) S 1 dX8_door_155 rfl rfl rfl ?_
                    refine v_aload_n (pc2 := 157) S 0 dX8_door_156 rfl rfl rfl ?_
                    refine v_get (v := .ref a0.2.1.1) (pc2 := 160) S gf_X8_12 0 rfl rfl dX8_door_157 rfl ?_
                    refine v_getN (v := .int v0.1.2.2.2) (pc2 := 163) S gf_X8_167 62 rfl rfl dX8_door_160 rfl ?_
                    refine v_callV (pc2 := 166) (As := [.int i0, .int v0.1.2.2.2]) (rest := []) S (c_X3_cordsTo l G a0.2.1.2.1 v0.1.1 i0 v0.1.2.2.2 _ hw) mf_X3_cordsTo u_502 u_503 u_504 0 3 rfl rfl rfl rfl ⟨rfl, rfl⟩ ⟨Nat.le_of_ble_eq_true rfl, Nat.le_of_ble_eq_true rfl⟩ ⟨Nat.le_of_ble_eq_true rfl, Nat.le_of_ble_eq_true rfl⟩ (Nat.le_of_ble_eq_true rfl) dX8_door_163 (frM (([(a0.1, .inr (8, [.ref a0.2.1.1, .ref a0.2.2.1.1, .ref a0.2.2.2.1.1, .int v0.2.2.2.1, .ref a0.2.2.2.2.1.1, .ref a0.2.2.2.2.2.1, .ref a0.2.2.2.2.2.2.1]))] : va_W) ++ ((wPad G a0.2.2.2.2.1 v0.2.2.2.2.1.1 v0.2.2.2.2.1.2) ++ ((wStop G a0.2.2.2.2.2.1 v0.2.2.2.2.2.1.1 v0.2.2.2.2.2.1.2.1 v0.2.2.2.2.2.1.2.2) ++ ((wHist G a0.2.2.1 v0.2.1.1 v0.2.1.2.1 v0.2.1.2.2) ++ (([(a0.2.1.1, .inr (5, [.ref a0.2.1.2.1.1, .ref a0.2.1.2.2.1.1, .ref a0.2.1.2.2.2.1, .int v0.1.2.2.2]))] : va_W)))))) (wLoom G a0.2.1.2.1 v0.1.1.1 v0.1.1.2.1 v0.1.1.2.2.1 v0.1.1.2.2.2.1 v0.1.1.2.2.2.2.1 v0.1.1.2.2.2.2.2) ((wGu G a0.2.1.2.2.1 v0.1.2.1.1 v0.1.2.1.2.1 v0.1.2.1.2.2) ++ ((wAc G a0.2.1.2.2.2 v0.1.2.2.1.1 v0.1.2.2.1.2.1 v0.1.2.2.1.2.2.1 v0.1.2.2.1.2.2.2.1 v0.1.2.2.1.2.2.2.2.1 v0.1.2.2.1.2.2.2.2.2.1 v0.1.2.2.1.2.2.2.2.2.2) ++ ((wSt G a0.2.2.2.1 v0.2.2.1.1 v0.2.2.1.2.1 v0.2.2.1.2.2.1 v0.2.2.1.2.2.2) ++ (wWays G a0.2.2.2.2.2.2 v0.2.2.2.2.2.2.1 v0.2.2.2.2.2.2.2.1 v0.2.2.2.2.2.2.2.2))))) rfl (pi (fun r34 u35 hw => ?_))
                    refine v_to (wCD G a0 v0.1 v0.2.1 v0.2.2.1 v0.2.2.2.1 v0.2.2.2.2.1 v0.2.2.2.2.2.1 v0.2.2.2.2.2.2) 166 [(0, .ref a0.1), (1, .int i0), (2, .int i1), (3, .ref a0.2.1.2.1.1)] _ [.int r34] rfl rfl rfl rfl ?_
                    exact v_iret S ⟨r34, (), rfl, rfl, hw⟩ dX8_door_166
                  · have hw := hw.2
                    by_cases c36 : i1 = (8 : Int32)
                    · have hw := hw.1 c36
                      refine v_tableIn (off := 149) (tgt := 167) S dX8_door_18 (by rw [c36]; decide) (by rw [c36]; decide) (by rw [c36]; rfl) (by decide) ?_
                      refine v_aload_n (pc2 := 168) S 0 dX8_door_167 rfl rfl rfl ?_
                      refine v_get (v := .ref a0.2.1.1) (pc2 := 171) S gf_X8_12 0 rfl rfl dX8_door_168 rfl ?_
                      refine v_getN (v := .ref a0.2.1.2.2.2.1) (pc2 := 174) S gf_X8_180 62 rfl rfl dX8_door_171 rfl ?_
                      refine v_getN (v := .ref a0.2.1.2.2.2.2.1) (pc2 := 177) S gf_X8_184 73 rfl rfl dX8_door_174 rfl ?_
                      refine v_iload_n (pc2 := 178) S 1 dX8_door_177 rfl rfl rfl ?_
                      obtain ⟨h37, hw⟩ := hw
                      refine v_iald (pc2 := 179) S 74 rfl h37 dX8_door_178 rfl ?_
                      exact v_iret S ⟨v0.1.2.2.1.1 i0.toNatClampNeg, (), rfl, rfl, hw⟩ dX8_door_179
                    · have hw := hw.2
                      by_cases c38 : i1 = (9 : Int32)
                      · have hw := hw.1 c38
                        refine v_tableIn (off := 162) (tgt := 180) S dX8_door_18 (by rw [c38]; decide) (by rw [c38]; decide) (by rw [c38]; rfl) (by decide) ?_
                        refine v_aload_n (pc2 := 181) S 0 dX8_door_180 rfl rfl rfl ?_
                        refine v_get (v := .ref a0.2.1.1) (pc2 := 184) S gf_X8_12 0 rfl rfl dX8_door_181 rfl ?_
                        refine v_getN (v := .ref a0.2.1.2.2.2.1) (pc2 := 187) S gf_X8_180 62 rfl rfl dX8_door_184 rfl ?_
                        refine v_getN (v := .ref a0.2.1.2.2.2.2.2) (pc2 := 190) S gf_X8_189 73 rfl rfl dX8_door_187 rfl ?_
                        refine v_iload_n (pc2 := 191) S 1 dX8_door_190 rfl rfl rfl ?_
                        obtain ⟨h39, hw⟩ := hw
                        refine v_iald (pc2 := 192) S 75 rfl h39 dX8_door_191 rfl ?_
                        exact v_iret S ⟨v0.1.2.2.1.2.1 i0.toNatClampNeg, (), rfl, rfl, hw⟩ dX8_door_192
                      · have hw := hw.2
                        have hw := hw c4 c8 c11 c14 c19 c24 c30 c33 c36 c38
                        refine v_tableOut (tgt := 193) S dX8_door_18 (sw_out9 c4 c8 c11 c14 c19 c24 c30 c33 c36 c38) (by decide) ?_
                        refine v_iconst (v := -1) (pc2 := 194) S dX8_door_193 (by decide) rfl ?_
                        exact v_iret S ⟨(-1 : Int32), (), rfl, rfl, hw⟩ dX8_door_194
  · have hw := hw.2 c3
    refine v_iconst (v := -1) (pc2 := 8) S dX8_door_7 (by decide) rfl ?_
    exact v_iret S ⟨(-1 : Int32), (), rfl, rfl, hw⟩ dX8_door_8
set_option maxHeartbeats 4000000 in
set_option maxRecDepth 100000 in
theorem c_X8_hall (l : Launch) (G : GG) (a0 : CDA) (v0 : CDV) (i0 : Int32) (i1 : Int32) (Q : Int32 → Prop) (hw : wp_X8_hall v0 i0 i1 Q) : Con l G yX8_hall cX8_hall 3 (some .int) { frames := 2, cells := 0, slots := 0, locals := 47 } [.ref a0.1, .int i0, .int i1] (wCD G a0 v0.1 v0.2.1 v0.2.2.1 v0.2.2.2.1 v0.2.2.2.2.1 v0.2.2.2.2.2.1 v0.2.2.2.2.2.2) (PI (fun _ : Unit => wCD G a0 v0.1 v0.2.1 v0.2.2.1 v0.2.2.2.1 v0.2.2.2.2.1 v0.2.2.2.2.2.1 v0.2.2.2.2.2.2) (fun r _ => Q r)) 0 0 := by
  refine con_of RX8 rfl (by decide) [(0, .ref a0.1), (1, .int i0), (2, .int i1)] rfl (Nat.le_of_ble_eq_true rfl) ?_
  intro p e s m args below meth c S hname
  refine v_iload_n (pc2 := 1) S 1 dX8_hall_0 rfl rfl rfl ?_
  refine v_callS (pc2 := 4) (As := [.int i0]) (rest := []) S (c_X8_isHall l G i0 _ hw) mf_X8_isHall u_321 u_322 rfl rfl ⟨rfl, rfl⟩ ⟨Nat.le_of_ble_eq_true rfl, Nat.le_of_ble_eq_true rfl⟩ ⟨Nat.le_of_ble_eq_true rfl, Nat.le_of_ble_eq_true rfl⟩ (Nat.le_of_ble_eq_true rfl) dX8_hall_1 (frM [] [] _) rfl (pb (fun r1 u2 br1 hw => ?_))
  refine v_to (wCD G a0 v0.1 v0.2.1 v0.2.2.1 v0.2.2.2.1 v0.2.2.2.2.1 v0.2.2.2.2.2.1 v0.2.2.2.2.2.2) 4 [(0, .ref a0.1), (1, .int i0), (2, .int i1)] _ [.int r1] rfl rfl rfl rfl ?_
  refine v_if_ne (pc2 := 7) (tgt := 9) S dX8_hall_4 (by decide) rfl (fun c3 => ?_) (fun c3 => ?_)
  · have hw := hw.1 c3
    refine v_iload_n (pc2 := 10) S 2 dX8_hall_9 rfl rfl rfl ?_
    by_cases c4 : i1 = (0 : Int32)
    · have hw := hw.1 c4
      refine v_tableIn (off := 30) (tgt := 40) S dX8_hall_10 (by rw [c4]; decide) (by rw [c4]; decide) (by rw [c4]; rfl) (by decide) ?_
      refine v_aload_n (pc2 := 41) S 0 dX8_hall_40 rfl rfl rfl ?_
      refine v_get (v := .ref a0.2.1.1) (pc2 := 44) S gf_X8_12 0 rfl rfl dX8_hall_41 rfl ?_
      refine v_getN (v := .ref a0.2.1.2.1.1) (pc2 := 47) S gf_X8_66 62 rfl rfl dX8_hall_44 rfl ?_
      refine v_iload_n (pc2 := 48) S 1 dX8_hall_47 rfl rfl rfl ?_
      refine v_callV (pc2 := 51) (As := [.int i0]) (rest := []) S (c_X3_doorsOf l G a0.2.1.2.1 v0.1.1 i0 _ hw) mf_X3_doorsOf u_528 u_529 u_530 0 3 rfl rfl rfl rfl ⟨rfl, rfl⟩ ⟨Nat.le_of_ble_eq_true rfl, Nat.le_of_ble_eq_true rfl⟩ ⟨Nat.le_of_ble_eq_true rfl, Nat.le_of_ble_eq_true rfl⟩ (Nat.le_of_ble_eq_true rfl) dX8_hall_48 (frM (([(a0.1, .inr (8, [.ref a0.2.1.1, .ref a0.2.2.1.1, .ref a0.2.2.2.1.1, .int v0.2.2.2.1, .ref a0.2.2.2.2.1.1, .ref a0.2.2.2.2.2.1, .ref a0.2.2.2.2.2.2.1]))] : va_W) ++ ((wPad G a0.2.2.2.2.1 v0.2.2.2.2.1.1 v0.2.2.2.2.1.2) ++ ((wStop G a0.2.2.2.2.2.1 v0.2.2.2.2.2.1.1 v0.2.2.2.2.2.1.2.1 v0.2.2.2.2.2.1.2.2) ++ ((wHist G a0.2.2.1 v0.2.1.1 v0.2.1.2.1 v0.2.1.2.2) ++ (([(a0.2.1.1, .inr (5, [.ref a0.2.1.2.1.1, .ref a0.2.1.2.2.1.1, .ref a0.2.1.2.2.2.1, .int v0.1.2.2.2]))] : va_W)))))) (wLoom G a0.2.1.2.1 v0.1.1.1 v0.1.1.2.1 v0.1.1.2.2.1 v0.1.1.2.2.2.1 v0.1.1.2.2.2.2.1 v0.1.1.2.2.2.2.2) ((wGu G a0.2.1.2.2.1 v0.1.2.1.1 v0.1.2.1.2.1 v0.1.2.1.2.2) ++ ((wAc G a0.2.1.2.2.2 v0.1.2.2.1.1 v0.1.2.2.1.2.1 v0.1.2.2.1.2.2.1 v0.1.2.2.1.2.2.2.1 v0.1.2.2.1.2.2.2.2.1 v0.1.2.2.1.2.2.2.2.2.1 v0.1.2.2.1.2.2.2.2.2.2) ++ ((wSt G a0.2.2.2.1 v0.2.2.1.1 v0.2.2.1.2.1 v0.2.2.1.2.2.1 v0.2.2.1.2.2.2) ++ (wWays G a0.2.2.2.2.2.2 v0.2.2.2.2.2.2.1 v0.2.2.2.2.2.2.2.1 v0.2.2.2.2.2.2.2.2))))) rfl (pi (fun r5 u6 hw => ?_))
      refine v_to (wCD G a0 v0.1 v0.2.1 v0.2.2.1 v0.2.2.2.1 v0.2.2.2.2.1 v0.2.2.2.2.2.1 v0.2.2.2.2.2.2) 51 [(0, .ref a0.1), (1, .int i0), (2, .int i1)] _ [.int r5] rfl rfl rfl rfl ?_
      refine v_callS (pc2 := 54) (As := [.int r5]) (rest := []) S (c_J6_bitCount_0f7a4 l G r5 _ hw) mf_J6_bitCount_0f7a4 u_402 u_312 rfl rfl ⟨rfl, rfl⟩ ⟨Nat.le_of_ble_eq_true rfl, Nat.le_of_ble_eq_true rfl⟩ ⟨Nat.le_of_ble_eq_true rfl, Nat.le_of_ble_eq_true rfl⟩ (Nat.le_of_ble_eq_true rfl) dX8_hall_51 (frM [] [] _) rfl (pi (fun r7 u8 hw => ?_))
      refine v_to (wCD G a0 v0.1 v0.2.1 v0.2.2.1 v0.2.2.2.1 v0.2.2.2.2.1 v0.2.2.2.2.2.1 v0.2.2.2.2.2.2) 54 [(0, .ref a0.1), (1, .int i0), (2, .int i1)] _ [.int r7] rfl rfl rfl rfl ?_
      exact v_iret S ⟨r7, (), rfl, rfl, hw⟩ dX8_hall_54
    · have hw := hw.2
      by_cases c9 : i1 = (1 : Int32)
      · have hw := hw.1 c9
        refine v_tableIn (off := 45) (tgt := 55) S dX8_hall_10 (by rw [c9]; decide) (by rw [c9]; decide) (by rw [c9]; rfl) (by decide) ?_
        refine v_aload_n (pc2 := 56) S 0 dX8_hall_55 rfl rfl rfl ?_
        refine v_get (v := .ref a0.2.1.1) (pc2 := 59) S gf_X8_12 0 rfl rfl dX8_hall_56 rfl ?_
        refine v_getN (v := .ref a0.2.1.2.1.1) (pc2 := 62) S gf_X8_66 62 rfl rfl dX8_hall_59 rfl ?_
        refine v_iload_n (pc2 := 63) S 1 dX8_hall_62 rfl rfl rfl ?_
        refine v_callV (pc2 := 66) (As := [.int i0]) (rest := []) S (c_X3_doorsOf l G a0.2.1.2.1 v0.1.1 i0 _ hw) mf_X3_doorsOf u_528 u_529 u_530 0 3 rfl rfl rfl rfl ⟨rfl, rfl⟩ ⟨Nat.le_of_ble_eq_true rfl, Nat.le_of_ble_eq_true rfl⟩ ⟨Nat.le_of_ble_eq_true rfl, Nat.le_of_ble_eq_true rfl⟩ (Nat.le_of_ble_eq_true rfl) dX8_hall_63 (frM (([(a0.1, .inr (8, [.ref a0.2.1.1, .ref a0.2.2.1.1, .ref a0.2.2.2.1.1, .int v0.2.2.2.1, .ref a0.2.2.2.2.1.1, .ref a0.2.2.2.2.2.1, .ref a0.2.2.2.2.2.2.1]))] : va_W) ++ ((wPad G a0.2.2.2.2.1 v0.2.2.2.2.1.1 v0.2.2.2.2.1.2) ++ ((wStop G a0.2.2.2.2.2.1 v0.2.2.2.2.2.1.1 v0.2.2.2.2.2.1.2.1 v0.2.2.2.2.2.1.2.2) ++ ((wHist G a0.2.2.1 v0.2.1.1 v0.2.1.2.1 v0.2.1.2.2) ++ (([(a0.2.1.1, .inr (5, [.ref a0.2.1.2.1.1, .ref a0.2.1.2.2.1.1, .ref a0.2.1.2.2.2.1, .int v0.1.2.2.2]))] : va_W)))))) (wLoom G a0.2.1.2.1 v0.1.1.1 v0.1.1.2.1 v0.1.1.2.2.1 v0.1.1.2.2.2.1 v0.1.1.2.2.2.2.1 v0.1.1.2.2.2.2.2) ((wGu G a0.2.1.2.2.1 v0.1.2.1.1 v0.1.2.1.2.1 v0.1.2.1.2.2) ++ ((wAc G a0.2.1.2.2.2 v0.1.2.2.1.1 v0.1.2.2.1.2.1 v0.1.2.2.1.2.2.1 v0.1.2.2.1.2.2.2.1 v0.1.2.2.1.2.2.2.2.1 v0.1.2.2.1.2.2.2.2.2.1 v0.1.2.2.1.2.2.2.2.2.2) ++ ((wSt G a0.2.2.2.1 v0.2.2.1.1 v0.2.2.1.2.1 v0.2.2.1.2.2.1 v0.2.2.1.2.2.2) ++ (wWays G a0.2.2.2.2.2.2 v0.2.2.2.2.2.2.1 v0.2.2.2.2.2.2.2.1 v0.2.2.2.2.2.2.2.2))))) rfl (pi (fun r10 u11 hw => ?_))
        refine v_to (wCD G a0 v0.1 v0.2.1 v0.2.2.1 v0.2.2.2.1 v0.2.2.2.2.1 v0.2.2.2.2.2.1 v0.2.2.2.2.2.2) 66 [(0, .ref a0.1), (1, .int i0), (2, .int i1)] _ [.int r10] rfl rfl rfl rfl ?_
        refine v_aload_n (pc2 := 67) S 0 dX8_hall_66 rfl rfl rfl ?_
        refine v_get (v := .ref a0.2.1.1) (pc2 := 70) S gf_X8_12 0 rfl rfl dX8_hall_67 rfl ?_
        refine v_getN (v := .int v0.1.2.2.2) (pc2 := 73) S gf_X8_167 62 rfl rfl dX8_hall_70 rfl ?_
        refine v_iand (pc2 := 74) S dX8_hall_73 rfl ?_
        refine v_callS (pc2 := 77) (As := [.int (r10 &&& v0.1.2.2.2)]) (rest := []) S (c_J6_bitCount_0f7a4 l G (r10 &&& v0.1.2.2.2) _ hw) mf_J6_bitCount_0f7a4 u_402 u_312 rfl rfl ⟨rfl, rfl⟩ ⟨Nat.le_of_ble_eq_true rfl, Nat.le_of_ble_eq_true rfl⟩ ⟨Nat.le_of_ble_eq_true rfl, Nat.le_of_ble_eq_true rfl⟩ (Nat.le_of_ble_eq_true rfl) dX8_hall_74 (frM [] [] _) rfl (pi (fun r12 u13 hw => ?_))
        refine v_to (wCD G a0 v0.1 v0.2.1 v0.2.2.1 v0.2.2.2.1 v0.2.2.2.2.1 v0.2.2.2.2.2.1 v0.2.2.2.2.2.2) 77 [(0, .ref a0.1), (1, .int i0), (2, .int i1)] _ [.int r12] rfl rfl rfl rfl ?_
        exact v_iret S ⟨r12, (), rfl, rfl, hw⟩ dX8_hall_77
      · have hw := hw.2
        by_cases c14 : i1 = (2 : Int32)
        · have hw := hw.1 c14
          refine v_tableIn (off := 68) (tgt := 78) S dX8_hall_10 (by rw [c14]; decide) (by rw [c14]; decide) (by rw [c14]; rfl) (by decide) ?_
          refine v_aload_n (pc2 := 79) S 0 dX8_hall_78 rfl rfl rfl ?_
          refine v_get (v := .ref a0.2.1.1) (pc2 := 82) S gf_X8_12 0 rfl rfl dX8_hall_79 rfl ?_
          refine v_getN (v := .ref a0.2.1.2.2.1.1) (pc2 := 85) S gf_X8_102 62 rfl rfl dX8_hall_82 rfl ?_
          refine v_iload_n (pc2 := 86) S 1 dX8_hall_85 rfl rfl rfl ?_
          refine v_callV (pc2 := 89) (As := [.int i0]) (rest := []) S (c_X1_howManyIn l G a0.2.1.2.2.1 v0.1.2.1 i0 _ hw) mf_X1_howManyIn u_532 u_533 u_534 0 1 rfl rfl rfl rfl ⟨rfl, rfl⟩ ⟨Nat.le_of_ble_eq_true rfl, Nat.le_of_ble_eq_true rfl⟩ ⟨Nat.le_of_ble_eq_true rfl, Nat.le_of_ble_eq_true rfl⟩ (Nat.le_of_ble_eq_true rfl) dX8_hall_86 (frM (([(a0.1, .inr (8, [.ref a0.2.1.1, .ref a0.2.2.1.1, .ref a0.2.2.2.1.1, .int v0.2.2.2.1, .ref a0.2.2.2.2.1.1, .ref a0.2.2.2.2.2.1, .ref a0.2.2.2.2.2.2.1]))] : va_W) ++ ((wPad G a0.2.2.2.2.1 v0.2.2.2.2.1.1 v0.2.2.2.2.1.2) ++ ((wStop G a0.2.2.2.2.2.1 v0.2.2.2.2.2.1.1 v0.2.2.2.2.2.1.2.1 v0.2.2.2.2.2.1.2.2) ++ ((wHist G a0.2.2.1 v0.2.1.1 v0.2.1.2.1 v0.2.1.2.2) ++ (([(a0.2.1.1, .inr (5, [.ref a0.2.1.2.1.1, .ref a0.2.1.2.2.1.1, .ref a0.2.1.2.2.2.1, .int v0.1.2.2.2]))] : va_W) ++ (wLoom G a0.2.1.2.1 v0.1.1.1 v0.1.1.2.1 v0.1.1.2.2.1 v0.1.1.2.2.2.1 v0.1.1.2.2.2.2.1 v0.1.1.2.2.2.2.2)))))) (wGu G a0.2.1.2.2.1 v0.1.2.1.1 v0.1.2.1.2.1 v0.1.2.1.2.2) ((wAc G a0.2.1.2.2.2 v0.1.2.2.1.1 v0.1.2.2.1.2.1 v0.1.2.2.1.2.2.1 v0.1.2.2.1.2.2.2.1 v0.1.2.2.1.2.2.2.2.1 v0.1.2.2.1.2.2.2.2.2.1 v0.1.2.2.1.2.2.2.2.2.2) ++ ((wSt G a0.2.2.2.1 v0.2.2.1.1 v0.2.2.1.2.1 v0.2.2.1.2.2.1 v0.2.2.1.2.2.2) ++ (wWays G a0.2.2.2.2.2.2 v0.2.2.2.2.2.2.1 v0.2.2.2.2.2.2.2.1 v0.2.2.2.2.2.2.2.2)))) rfl (pi (fun r15 u16 hw => ?_))
          refine v_to (wCD G a0 v0.1 v0.2.1 v0.2.2.1 v0.2.2.2.1 v0.2.2.2.2.1 v0.2.2.2.2.2.1 v0.2.2.2.2.2.2) 89 [(0, .ref a0.1), (1, .int i0), (2, .int i1)] _ [.int r15] rfl rfl rfl rfl ?_
          exact v_iret S ⟨r15, (), rfl, rfl, hw⟩ dX8_hall_89
        · have hw := hw.2
          by_cases c17 : i1 = (3 : Int32)
          · have hw := hw.1 c17
            refine v_tableIn (off := 80) (tgt := 90) S dX8_hall_10 (by rw [c17]; decide) (by rw [c17]; decide) (by rw [c17]; rfl) (by decide) ?_
            refine v_aload_n (pc2 := 91) S 0 dX8_hall_90 rfl rfl rfl ?_
            refine v_get (v := .ref a0.2.1.1) (pc2 := 94) S gf_X8_12 0 rfl rfl dX8_hall_91 rfl ?_
            refine v_getN (v := .ref a0.2.1.2.1.1) (pc2 := 97) S gf_X8_66 62 rfl rfl dX8_hall_94 rfl ?_
            refine v_iload_n (pc2 := 98) S 1 dX8_hall_97 rfl rfl rfl ?_
            refine v_aload_n (pc2 := 99) S 0 dX8_hall_98 rfl rfl rfl ?_
            refine v_get (v := .ref a0.2.1.1) (pc2 := 102) S gf_X8_12 0 rfl rfl dX8_hall_99 rfl ?_
            refine v_getN (v := .int v0.1.2.2.2) (pc2 := 105) S gf_X8_167 62 rfl rfl dX8_hall_102 rfl ?_
            refine v_callV (pc2 := 108) (As := [.int i0, .int v0.1.2.2.2]) (rest := []) S (c_X3_hallsFrom l G a0.2.1.2.1 v0.1.1 i0 v0.1.2.2.2 _ hw) mf_X3_hallsFrom u_536 u_417 u_418 0 3 rfl rfl rfl rfl ⟨rfl, rfl⟩ ⟨Nat.le_of_ble_eq_true rfl, Nat.le_of_ble_eq_true rfl⟩ ⟨Nat.le_of_ble_eq_true rfl, Nat.le_of_ble_eq_true rfl⟩ (Nat.le_of_ble_eq_true rfl) dX8_hall_105 (frM (([(a0.1, .inr (8, [.ref a0.2.1.1, .ref a0.2.2.1.1, .ref a0.2.2.2.1.1, .int v0.2.2.2.1, .ref a0.2.2.2.2.1.1, .ref a0.2.2.2.2.2.1, .ref a0.2.2.2.2.2.2.1]))] : va_W) ++ ((wPad G a0.2.2.2.2.1 v0.2.2.2.2.1.1 v0.2.2.2.2.1.2) ++ ((wStop G a0.2.2.2.2.2.1 v0.2.2.2.2.2.1.1 v0.2.2.2.2.2.1.2.1 v0.2.2.2.2.2.1.2.2) ++ ((wHist G a0.2.2.1 v0.2.1.1 v0.2.1.2.1 v0.2.1.2.2) ++ (([(a0.2.1.1, .inr (5, [.ref a0.2.1.2.1.1, .ref a0.2.1.2.2.1.1, .ref a0.2.1.2.2.2.1, .int v0.1.2.2.2]))] : va_W)))))) (wLoom G a0.2.1.2.1 v0.1.1.1 v0.1.1.2.1 v0.1.1.2.2.1 v0.1.1.2.2.2.1 v0.1.1.2.2.2.2.1 v0.1.1.2.2.2.2.2) ((wGu G a0.2.1.2.2.1 v0.1.2.1.1 v0.1.2.1.2.1 v0.1.2.1.2.2) ++ ((wAc G a0.2.1.2.2.2 v0.1.2.2.1.1 v0.1.2.2.1.2.1 v0.1.2.2.1.2.2.1 v0.1.2.2.1.2.2.2.1 v0.1.2.2.1.2.2.2.2.1 v0.1.2.2.1.2.2.2.2.2.1 v0.1.2.2.1.2.2.2.2.2.2) ++ ((wSt G a0.2.2.2.1 v0.2.2.1.1 v0.2.2.1.2.1 v0.2.2.1.2.2.1 v0.2.2.1.2.2.2) ++ (wWays G a0.2.2.2.2.2.2 v0.2.2.2.2.2.2.1 v0.2.2.2.2.2.2.2.1 v0.2.2.2.2.2.2.2.2))))) rfl (pi (fun r18 u19 hw => ?_))
            refine v_to (wCD G a0 v0.1 v0.2.1 v0.2.2.1 v0.2.2.2.1 v0.2.2.2.2.1 v0.2.2.2.2.2.1 v0.2.2.2.2.2.2) 108 [(0, .ref a0.1), (1, .int i0), (2, .int i1)] _ [.int r18] rfl rfl rfl rfl ?_
            refine v_callS (pc2 := 111) (As := [.int r18]) (rest := []) S (c_J6_bitCount_0f7a4 l G r18 _ hw) mf_J6_bitCount_0f7a4 u_402 u_312 rfl rfl ⟨rfl, rfl⟩ ⟨Nat.le_of_ble_eq_true rfl, Nat.le_of_ble_eq_true rfl⟩ ⟨Nat.le_of_ble_eq_true rfl, Nat.le_of_ble_eq_true rfl⟩ (Nat.le_of_ble_eq_true rfl) dX8_hall_108 (frM [] [] _) rfl (pi (fun r20 u21 hw => ?_))
            refine v_to (wCD G a0 v0.1 v0.2.1 v0.2.2.1 v0.2.2.2.1 v0.2.2.2.2.1 v0.2.2.2.2.2.1 v0.2.2.2.2.2.2) 111 [(0, .ref a0.1), (1, .int i0), (2, .int i1)] _ [.int r20] rfl rfl rfl rfl ?_
            exact v_iret S ⟨r20, (), rfl, rfl, hw⟩ dX8_hall_111
          · have hw := hw.2
            have hw := hw c4 c9 c14 c17
            refine v_tableOut (tgt := 112) S dX8_hall_10 (sw_out3 c4 c9 c14 c17) (by decide) ?_
            refine v_iconst (v := -1) (pc2 := 113) S dX8_hall_112 (by decide) rfl ?_
            exact v_iret S ⟨(-1 : Int32), (), rfl, rfl, hw⟩ dX8_hall_113
  · have hw := hw.2 c3
    refine v_iconst (v := -1) (pc2 := 8) S dX8_hall_7 (by decide) rfl ?_
    exact v_iret S ⟨(-1 : Int32), (), rfl, rfl, hw⟩ dX8_hall_8
set_option maxHeartbeats 4000000 in
set_option maxRecDepth 100000 in
theorem c_X8_guest (l : Launch) (G : GG) (a0 : CDA) (v0 : CDV) (i0 : Int32) (i1 : Int32) (Q : Int32 → Prop) (hw : wp_X8_guest v0 i0 i1 Q) : Con l G yX8_guest cX8_guest 3 (some .int) { frames := 5, cells := 0, slots := 0, locals := 110 } [.ref a0.1, .int i0, .int i1] (wCD G a0 v0.1 v0.2.1 v0.2.2.1 v0.2.2.2.1 v0.2.2.2.2.1 v0.2.2.2.2.2.1 v0.2.2.2.2.2.2) (PI (fun _ : Unit => wCD G a0 v0.1 v0.2.1 v0.2.2.1 v0.2.2.2.1 v0.2.2.2.2.1 v0.2.2.2.2.2.1 v0.2.2.2.2.2.2) (fun r _ => Q r)) 0 0 := by
  refine con_of RX8 rfl (by decide) [(0, .ref a0.1), (1, .int i0), (2, .int i1)] rfl (Nat.le_of_ble_eq_true rfl) ?_
  intro p e s m args below meth c S hname
  refine v_iload_n (pc2 := 1) S 1 dX8_guest_0 rfl rfl rfl ?_
  refine v_callS (pc2 := 4) (As := [.int i0]) (rest := []) S (c_X8_isGuest l G i0 _ hw) mf_X8_isGuest u_256 u_257 rfl rfl ⟨rfl, rfl⟩ ⟨Nat.le_of_ble_eq_true rfl, Nat.le_of_ble_eq_true rfl⟩ ⟨Nat.le_of_ble_eq_true rfl, Nat.le_of_ble_eq_true rfl⟩ (Nat.le_of_ble_eq_true rfl) dX8_guest_1 (frM [] [] _) rfl (pb (fun r1 u2 br1 hw => ?_))
  refine v_to (wCD G a0 v0.1 v0.2.1 v0.2.2.1 v0.2.2.2.1 v0.2.2.2.2.1 v0.2.2.2.2.2.1 v0.2.2.2.2.2.2) 4 [(0, .ref a0.1), (1, .int i0), (2, .int i1)] _ [.int r1] rfl rfl rfl rfl ?_
  refine v_if_ne (pc2 := 7) (tgt := 9) S dX8_guest_4 (by decide) rfl (fun c3 => ?_) (fun c3 => ?_)
  · have hw := hw.1 c3
    refine v_iload_n (pc2 := 10) S 2 dX8_guest_9 rfl rfl rfl ?_
    by_cases c4 : i1 = (0 : Int32)
    · have hw := hw.1 c4
      refine v_tableIn (off := 30) (tgt := 40) S dX8_guest_10 (by rw [c4]; decide) (by rw [c4]; decide) (by rw [c4]; rfl) (by decide) ?_
      refine v_aload_n (pc2 := 41) S 0 dX8_guest_40 rfl rfl rfl ?_
      refine v_get (v := .ref a0.2.1.1) (pc2 := 44) S gf_X8_12 0 rfl rfl dX8_guest_41 rfl ?_
      refine v_getN (v := .ref a0.2.1.2.2.1.1) (pc2 := 47) S gf_X8_102 62 rfl rfl dX8_guest_44 rfl ?_
      refine v_getN (v := .ref a0.2.1.2.2.1.2.1) (pc2 := 50) S gf_X8_206 69 rfl rfl dX8_guest_47 rfl ?_
      refine v_iload_n (pc2 := 51) S 1 dX8_guest_50 rfl rfl rfl ?_
      obtain ⟨h5, hw⟩ := hw
      refine v_iald (pc2 := 52) S 70 rfl h5 dX8_guest_51 rfl ?_
      exact v_iret S ⟨v0.1.2.1.1 i0.toNatClampNeg, (), rfl, rfl, hw⟩ dX8_guest_52
    · have hw := hw.2
      by_cases c6 : i1 = (1 : Int32)
      · have hw := hw.1 c6
        refine v_tableIn (off := 43) (tgt := 53) S dX8_guest_10 (by rw [c6]; decide) (by rw [c6]; decide) (by rw [c6]; rfl) (by decide) ?_
        refine v_aload_n (pc2 := 54) S 0 dX8_guest_53 rfl rfl rfl ?_
        refine v_get (v := .ref a0.2.1.1) (pc2 := 57) S gf_X8_12 0 rfl rfl dX8_guest_54 rfl ?_
        refine v_getN (v := .ref a0.2.1.2.2.1.1) (pc2 := 60) S gf_X8_102 62 rfl rfl dX8_guest_57 rfl ?_
        refine v_getN (v := .ref a0.2.1.2.2.1.2.2.1) (pc2 := 63) S gf_X8_106 69 rfl rfl dX8_guest_60 rfl ?_
        refine v_iload_n (pc2 := 64) S 1 dX8_guest_63 rfl rfl rfl ?_
        obtain ⟨h7, hw⟩ := hw
        refine v_iald (pc2 := 65) S 71 rfl h7 dX8_guest_64 rfl ?_
        exact v_iret S ⟨v0.1.2.1.2.1 i0.toNatClampNeg, (), rfl, rfl, hw⟩ dX8_guest_65
      · have hw := hw.2
        by_cases c8 : i1 = (2 : Int32)
        · have hw := hw.1 c8
          refine v_tableIn (off := 56) (tgt := 66) S dX8_guest_10 (by rw [c8]; decide) (by rw [c8]; decide) (by rw [c8]; rfl) (by decide) ?_
          refine v_aload_n (pc2 := 67) S 0 dX8_guest_66 rfl rfl rfl ?_
          refine v_get (v := .ref a0.2.1.1) (pc2 := 70) S gf_X8_12 0 rfl rfl dX8_guest_67 rfl ?_
          refine v_iload_n (pc2 := 71) S 1 dX8_guest_70 rfl rfl rfl ?_
          refine v_callV (pc2 := 74) (As := [.int i0]) (rest := []) S (c_X5_howManyCouldOpen l G a0.2.1 v0.1 i0 _ hw) mf_X5_howManyCouldOpen u_259 u_260 u_261 0 5 rfl rfl rfl rfl ⟨rfl, rfl⟩ ⟨Nat.le_of_ble_eq_true rfl, Nat.le_of_ble_eq_true rfl⟩ ⟨Nat.le_of_ble_eq_true rfl, Nat.le_of_ble_eq_true rfl⟩ (Nat.le_of_ble_eq_true rfl) dX8_guest_71 (frM (([(a0.1, .inr (8, [.ref a0.2.1.1, .ref a0.2.2.1.1, .ref a0.2.2.2.1.1, .int v0.2.2.2.1, .ref a0.2.2.2.2.1.1, .ref a0.2.2.2.2.2.1, .ref a0.2.2.2.2.2.2.1]))] : va_W) ++ ((wPad G a0.2.2.2.2.1 v0.2.2.2.2.1.1 v0.2.2.2.2.1.2) ++ ((wStop G a0.2.2.2.2.2.1 v0.2.2.2.2.2.1.1 v0.2.2.2.2.2.1.2.1 v0.2.2.2.2.2.1.2.2) ++ (wHist G a0.2.2.1 v0.2.1.1 v0.2.1.2.1 v0.2.1.2.2)))) (wSt G a0.2.1 v0.1.1 v0.1.2.1 v0.1.2.2.1 v0.1.2.2.2) ((wSt G a0.2.2.2.1 v0.2.2.1.1 v0.2.2.1.2.1 v0.2.2.1.2.2.1 v0.2.2.1.2.2.2) ++ (wWays G a0.2.2.2.2.2.2 v0.2.2.2.2.2.2.1 v0.2.2.2.2.2.2.2.1 v0.2.2.2.2.2.2.2.2))) rfl (pi (fun r9 u10 hw => ?_))
          refine v_to (wCD G a0 v0.1 v0.2.1 v0.2.2.1 v0.2.2.2.1 v0.2.2.2.2.1 v0.2.2.2.2.2.1 v0.2.2.2.2.2.2) 74 [(0, .ref a0.1), (1, .int i0), (2, .int i1)] _ [.int r9] rfl rfl rfl rfl ?_
          exact v_iret S ⟨r9, (), rfl, rfl, hw⟩ dX8_guest_74
        · have hw := hw.2
          by_cases c11 : i1 = (3 : Int32)
          · have hw := hw.1 c11
            refine v_tableIn (off := 65) (tgt := 75) S dX8_guest_10 (by rw [c11]; decide) (by rw [c11]; decide) (by rw [c11]; rfl) (by decide) ?_
            refine v_aload_n (pc2 := 76) S 0 dX8_guest_75 rfl rfl rfl ?_
            refine v_get (v := .ref a0.2.1.1) (pc2 := 79) S gf_X8_12 0 rfl rfl dX8_guest_76 rfl ?_
            refine v_getN (v := .ref a0.2.1.2.2.1.1) (pc2 := 82) S gf_X8_102 62 rfl rfl dX8_guest_79 rfl ?_
            refine v_getN (v := .ref a0.2.1.2.2.1.2.2.2) (pc2 := 85) S gf_X8_212 69 rfl rfl dX8_guest_82 rfl ?_
            refine v_iload_n (pc2 := 86) S 1 dX8_guest_85 rfl rfl rfl ?_
            obtain ⟨h12, hw⟩ := hw
            refine v_iald (pc2 := 87) S 72 rfl h12 dX8_guest_86 rfl ?_
            exact v_iret S ⟨v0.1.2.1.2.2 i0.toNatClampNeg, (), rfl, rfl, hw⟩ dX8_guest_87
          · have hw := hw.2
            have hw := hw c4 c6 c8 c11
            refine v_tableOut (tgt := 88) S dX8_guest_10 (sw_out3 c4 c6 c8 c11) (by decide) ?_
            refine v_iconst (v := -1) (pc2 := 89) S dX8_guest_88 (by decide) rfl ?_
            exact v_iret S ⟨(-1 : Int32), (), rfl, rfl, hw⟩ dX8_guest_89
  · have hw := hw.2 c3
    refine v_iconst (v := -1) (pc2 := 8) S dX8_guest_7 (by decide) rfl ?_
    exact v_iret S ⟨(-1 : Int32), (), rfl, rfl, hw⟩ dX8_guest_8
set_option maxHeartbeats 4000000 in
set_option maxRecDepth 100000 in
theorem c_X8_whyNot (l : Launch) (G : GG) (a0 : CDA) (v0 : CDV) (i0 : Int32) (Q : Int32 → Prop) (hw : wp_X8_whyNot v0 i0 Q) : Con l G yX8_whyNot cX8_whyNot 2 (some .int) { frames := 3, cells := 0, slots := 0, locals := 65 } [.ref a0.1, .int i0] (wCD G a0 v0.1 v0.2.1 v0.2.2.1 v0.2.2.2.1 v0.2.2.2.2.1 v0.2.2.2.2.2.1 v0.2.2.2.2.2.2) (PI (fun _ : Unit => wCD G a0 v0.1 v0.2.1 v0.2.2.1 v0.2.2.2.1 v0.2.2.2.2.1 v0.2.2.2.2.2.1 v0.2.2.2.2.2.2) (fun r _ => Q r)) 0 0 := by
  refine con_of RX8 rfl (by decide) [(0, .ref a0.1), (1, .int i0)] rfl (Nat.le_of_ble_eq_true rfl) ?_
  intro p e s m args below meth c S hname
  refine v_iload_n (pc2 := 1) S 1 dX8_whyNot_0 rfl rfl rfl ?_
  refine v_callS (pc2 := 4) (As := [.int i0]) (rest := []) S (c_X8_isDoor l G i0 _ hw) mf_X8_isDoor u_488 u_489 rfl rfl ⟨rfl, rfl⟩ ⟨Nat.le_of_ble_eq_true rfl, Nat.le_of_ble_eq_true rfl⟩ ⟨Nat.le_of_ble_eq_true rfl, Nat.le_of_ble_eq_true rfl⟩ (Nat.le_of_ble_eq_true rfl) dX8_whyNot_1 (frM [] [] _) rfl (pb (fun r1 u2 br1 hw => ?_))
  refine v_to (wCD G a0 v0.1 v0.2.1 v0.2.2.1 v0.2.2.2.1 v0.2.2.2.2.1 v0.2.2.2.2.2.1 v0.2.2.2.2.2.2) 4 [(0, .ref a0.1), (1, .int i0)] _ [.int r1] rfl rfl rfl rfl ?_
  refine v_if_eq (pc2 := 7) (tgt := 18) S dX8_whyNot_4 (by decide) rfl (fun c3 => ?_) (fun c3 => ?_)
  · have hw := hw.1 c3
    refine v_iconst (v := -1) (pc2 := 19) S dX8_whyNot_18 (by decide) rfl ?_
    exact v_iret S ⟨(-1 : Int32), (), rfl, rfl, hw⟩ dX8_whyNot_19
  · have hw := hw.2 c3
    refine v_aload_n (pc2 := 8) S 0 dX8_whyNot_7 rfl rfl rfl ?_
    refine v_get (v := .ref a0.2.1.1) (pc2 := 11) S gf_X8_12 0 rfl rfl dX8_whyNot_8 rfl ?_
    refine v_iload_n (pc2 := 12) S 1 dX8_whyNot_11 rfl rfl rfl ?_
    refine v_callV (pc2 := 15) (As := [.int i0]) (rest := []) S (c_X5_reasonNotToOpen l G a0.2.1 v0.1 i0 _ hw) mf_X5_reasonNotToOpen u_516 u_279 u_280 0 5 rfl rfl rfl rfl ⟨rfl, rfl⟩ ⟨Nat.le_of_ble_eq_true rfl, Nat.le_of_ble_eq_true rfl⟩ ⟨Nat.le_of_ble_eq_true rfl, Nat.le_of_ble_eq_true rfl⟩ (Nat.le_of_ble_eq_true rfl) dX8_whyNot_12 (frM (([(a0.1, .inr (8, [.ref a0.2.1.1, .ref a0.2.2.1.1, .ref a0.2.2.2.1.1, .int v0.2.2.2.1, .ref a0.2.2.2.2.1.1, .ref a0.2.2.2.2.2.1, .ref a0.2.2.2.2.2.2.1]))] : va_W) ++ ((wPad G a0.2.2.2.2.1 v0.2.2.2.2.1.1 v0.2.2.2.2.1.2) ++ ((wStop G a0.2.2.2.2.2.1 v0.2.2.2.2.2.1.1 v0.2.2.2.2.2.1.2.1 v0.2.2.2.2.2.1.2.2) ++ (wHist G a0.2.2.1 v0.2.1.1 v0.2.1.2.1 v0.2.1.2.2)))) (wSt G a0.2.1 v0.1.1 v0.1.2.1 v0.1.2.2.1 v0.1.2.2.2) ((wSt G a0.2.2.2.1 v0.2.2.1.1 v0.2.2.1.2.1 v0.2.2.1.2.2.1 v0.2.2.1.2.2.2) ++ (wWays G a0.2.2.2.2.2.2 v0.2.2.2.2.2.2.1 v0.2.2.2.2.2.2.2.1 v0.2.2.2.2.2.2.2.2))) rfl (pi (fun r4 u5 hw => ?_))
    refine v_to (wCD G a0 v0.1 v0.2.1 v0.2.2.1 v0.2.2.2.1 v0.2.2.2.2.1 v0.2.2.2.2.2.1 v0.2.2.2.2.2.2) 15 [(0, .ref a0.1), (1, .int i0)] _ [.int r4] rfl rfl rfl rfl ?_
    refine v_goto (tgt := 19) S dX8_whyNot_15 (by decide) ?_
    exact v_iret S ⟨r4, (), rfl, rfl, hw⟩ dX8_whyNot_19
set_option maxHeartbeats 4000000 in
set_option maxRecDepth 100000 in
theorem c_X8_together (l : Launch) (G : GG) (a0 : CDA) (v0 : CDV) (i0 : Int32) (Q : Int32 → Prop) (hw : wp_X8_together v0 i0 Q) : Con l G yX8_together cX8_together 2 (some .int) { frames := 15, cells := 0, slots := 0, locals := 354 } [.ref a0.1, .int i0] (wCD G a0 v0.1 v0.2.1 v0.2.2.1 v0.2.2.2.1 v0.2.2.2.2.1 v0.2.2.2.2.2.1 v0.2.2.2.2.2.2) (PI (fun _ : Unit => wCD G a0 v0.1 v0.2.1 v0.2.2.1 v0.2.2.2.1 v0.2.2.2.2.1 v0.2.2.2.2.2.1 v0.2.2.2.2.2.2) (fun r _ => Q r)) 0 0 := by
  refine con_of RX8 rfl (by decide) [(0, .ref a0.1), (1, .int i0)] rfl (Nat.le_of_ble_eq_true rfl) ?_
  intro p e s m args below meth c S hname
  refine v_iload_n (pc2 := 1) S 1 dX8_together_0 rfl rfl rfl ?_
  by_cases c1 : i0 = (0 : Int32)
  · have hw := hw.1 c1
    refine v_lookup (off := 27) (tgt := 28) S dX8_together_1 (by decide) (by rw [c1]; decide) (by decide) ?_
    refine v_aload_n (pc2 := 29) S 0 dX8_together_28 rfl rfl rfl ?_
    refine v_callV (pc2 := 32) (As := []) (rest := []) S (c_X8_mostOfAllSets l G a0 v0 _ hw) mf_X8_mostOfAllSets u_651 u_653 u_15 0 8 rfl rfl rfl rfl ⟨rfl, rfl⟩ ⟨Nat.le_of_ble_eq_true rfl, Nat.le_of_ble_eq_true rfl⟩ ⟨Nat.le_of_ble_eq_true rfl, Nat.le_of_ble_eq_true rfl⟩ (Nat.le_of_ble_eq_true rfl) dX8_together_29 (frW _) rfl (pi (fun r2 u3 hw => ?_))
    refine v_to (wCD G a0 v0.1 v0.2.1 v0.2.2.1 v0.2.2.2.1 v0.2.2.2.2.1 v0.2.2.2.2.2.1 v0.2.2.2.2.2.2) 32 [(0, .ref a0.1), (1, .int i0)] _ [.int r2] rfl rfl rfl rfl ?_
    exact v_iret S ⟨r2, (), rfl, rfl, hw⟩ dX8_together_32
  · have hw := hw.2
    by_cases c4 : i0 = (1 : Int32)
    · have hw := hw.1 c4
      refine v_lookup (off := 32) (tgt := 33) S dX8_together_1 (by decide) (by rw [c4]; decide) (by decide) ?_
      refine v_aload_n (pc2 := 34) S 0 dX8_together_33 rfl rfl rfl ?_
      refine v_get (v := .ref a0.2.1.1) (pc2 := 37) S gf_X8_12 0 rfl rfl dX8_together_34 rfl ?_
      refine v_getN (v := .ref a0.2.1.2.1.1) (pc2 := 40) S gf_X8_66 62 rfl rfl dX8_together_37 rfl ?_
      refine v_iconst (v := 0) (pc2 := 41) S dX8_together_40 (by decide) rfl ?_
      refine v_iconst (v := 0) (pc2 := 42) S dX8_together_41 (by decide) rfl ?_
      refine v_callS (pc2 := 45) (As := [.ref a0.2.1.2.1.1, .int (0 : Int32), .int (0 : Int32)]) (rest := []) S (c_X8_mostDoorByDoor l G a0.2.1.2.1 11 v0.1.1 (0 : Int32) (0 : Int32) _ hw) mf_X8_mostDoorByDoor u_656 u_657 rfl rfl ⟨rfl, rfl⟩ ⟨Nat.le_of_ble_eq_true rfl, Nat.le_of_ble_eq_true rfl⟩ ⟨Nat.le_of_ble_eq_true rfl, Nat.le_of_ble_eq_true rfl⟩ (Nat.le_of_ble_eq_true rfl) dX8_together_42 (frM (([(a0.1, .inr (8, [.ref a0.2.1.1, .ref a0.2.2.1.1, .ref a0.2.2.2.1.1, .int v0.2.2.2.1, .ref a0.2.2.2.2.1.1, .ref a0.2.2.2.2.2.1, .ref a0.2.2.2.2.2.2.1]))] : va_W) ++ ((wPad G a0.2.2.2.2.1 v0.2.2.2.2.1.1 v0.2.2.2.2.1.2) ++ ((wStop G a0.2.2.2.2.2.1 v0.2.2.2.2.2.1.1 v0.2.2.2.2.2.1.2.1 v0.2.2.2.2.2.1.2.2) ++ ((wHist G a0.2.2.1 v0.2.1.1 v0.2.1.2.1 v0.2.1.2.2) ++ (([(a0.2.1.1, .inr (5, [.ref a0.2.1.2.1.1, .ref a0.2.1.2.2.1.1, .ref a0.2.1.2.2.2.1, .int v0.1.2.2.2]))] : va_W)))))) (wLoom G a0.2.1.2.1 v0.1.1.1 v0.1.1.2.1 v0.1.1.2.2.1 v0.1.1.2.2.2.1 v0.1.1.2.2.2.2.1 v0.1.1.2.2.2.2.2) ((wGu G a0.2.1.2.2.1 v0.1.2.1.1 v0.1.2.1.2.1 v0.1.2.1.2.2) ++ ((wAc G a0.2.1.2.2.2 v0.1.2.2.1.1 v0.1.2.2.1.2.1 v0.1.2.2.1.2.2.1 v0.1.2.2.1.2.2.2.1 v0.1.2.2.1.2.2.2.2.1 v0.1.2.2.1.2.2.2.2.2.1 v0.1.2.2.1.2.2.2.2.2.2) ++ ((wSt G a0.2.2.2.1 v0.2.2.1.1 v0.2.2.1.2.1 v0.2.2.1.2.2.1 v0.2.2.1.2.2.2) ++ (wWays G a0.2.2.2.2.2.2 v0.2.2.2.2.2.2.1 v0.2.2.2.2.2.2.2.1 v0.2.2.2.2.2.2.2.2))))) rfl (pi (fun r5 u6 hw => ?_))
      refine v_to (wCD G a0 v0.1 v0.2.1 v0.2.2.1 v0.2.2.2.1 v0.2.2.2.2.1 v0.2.2.2.2.2.1 v0.2.2.2.2.2.2) 45 [(0, .ref a0.1), (1, .int i0)] _ [.int r5] rfl rfl rfl rfl ?_
      exact v_iret S ⟨r5, (), rfl, rfl, hw⟩ dX8_together_45
    · have hw := hw.2
      have hw := hw c1 c4
      refine v_lookup (off := 45) (tgt := 46) S dX8_together_1 (by decide) (lk_out0_1 c1 c4) (by decide) ?_
      refine v_iconst (v := -1) (pc2 := 47) S dX8_together_46 (by decide) rfl ?_
      exact v_iret S ⟨(-1 : Int32), (), rfl, rfl, hw⟩ dX8_together_47
set_option maxHeartbeats 4000000 in
set_option maxRecDepth 100000 in
theorem c_X8_can (l : Launch) (G : GG) (a0 : CDA) (v0 : CDV) (i0 : Int32) (Q : Int32 → Prop) (hw : wp_X8_can v0 i0 Q) : Con l G yX8_can cX8_can 2 (some .int) { frames := 3, cells := 0, slots := 0, locals := 66 } [.ref a0.1, .int i0] (wCD G a0 v0.1 v0.2.1 v0.2.2.1 v0.2.2.2.1 v0.2.2.2.2.1 v0.2.2.2.2.2.1 v0.2.2.2.2.2.2) (PI (fun _ : Unit => wCD G a0 v0.1 v0.2.1 v0.2.2.1 v0.2.2.2.1 v0.2.2.2.2.1 v0.2.2.2.2.2.1 v0.2.2.2.2.2.2) (fun r _ => Q r)) 0 0 := by
  refine con_of RX8 rfl (by decide) [(0, .ref a0.1), (1, .int i0)] rfl (Nat.le_of_ble_eq_true rfl) ?_
  intro p e s m args below meth c S hname
  refine v_iload_n (pc2 := 1) S 1 dX8_can_0 rfl rfl rfl ?_
  refine v_callS (pc2 := 4) (As := [.int i0]) (rest := []) S (c_X8_isSetOfDoors l G i0 _ hw) mf_X8_isSetOfDoors u_299 u_300 rfl rfl ⟨rfl, rfl⟩ ⟨Nat.le_of_ble_eq_true rfl, Nat.le_of_ble_eq_true rfl⟩ ⟨Nat.le_of_ble_eq_true rfl, Nat.le_of_ble_eq_true rfl⟩ (Nat.le_of_ble_eq_true rfl) dX8_can_1 (frM [] [] _) rfl (pb (fun r1 u2 br1 hw => ?_))
  refine v_to (wCD G a0 v0.1 v0.2.1 v0.2.2.1 v0.2.2.2.1 v0.2.2.2.2.1 v0.2.2.2.2.2.1 v0.2.2.2.2.2.2) 4 [(0, .ref a0.1), (1, .int i0)] _ [.int r1] rfl rfl rfl rfl ?_
  refine v_if_ne (pc2 := 7) (tgt := 9) S dX8_can_4 (by decide) rfl (fun c3 => ?_) (fun c3 => ?_)
  · have hw := hw.1 c3
    refine v_aload_n (pc2 := 10) S 0 dX8_can_9 rfl rfl rfl ?_
    refine v_get (v := .ref a0.2.1.1) (pc2 := 13) S gf_X8_12 0 rfl rfl dX8_can_10 rfl ?_
    refine v_getN (v := .ref a0.2.1.2.1.1) (pc2 := 16) S gf_X8_66 62 rfl rfl dX8_can_13 rfl ?_
    refine v_iload_n (pc2 := 17) S 1 dX8_can_16 rfl rfl rfl ?_
    refine v_callV (pc2 := 20) (As := [.int i0]) (rest := []) S (c_X3_canBeOpen l G a0.2.1.2.1 v0.1.1 i0 _ hw) mf_X3_canBeOpen u_302 u_303 u_304 0 3 rfl rfl rfl rfl ⟨rfl, rfl⟩ ⟨Nat.le_of_ble_eq_true rfl, Nat.le_of_ble_eq_true rfl⟩ ⟨Nat.le_of_ble_eq_true rfl, Nat.le_of_ble_eq_true rfl⟩ (Nat.le_of_ble_eq_true rfl) dX8_can_17 (frM (([(a0.1, .inr (8, [.ref a0.2.1.1, .ref a0.2.2.1.1, .ref a0.2.2.2.1.1, .int v0.2.2.2.1, .ref a0.2.2.2.2.1.1, .ref a0.2.2.2.2.2.1, .ref a0.2.2.2.2.2.2.1]))] : va_W) ++ ((wPad G a0.2.2.2.2.1 v0.2.2.2.2.1.1 v0.2.2.2.2.1.2) ++ ((wStop G a0.2.2.2.2.2.1 v0.2.2.2.2.2.1.1 v0.2.2.2.2.2.1.2.1 v0.2.2.2.2.2.1.2.2) ++ ((wHist G a0.2.2.1 v0.2.1.1 v0.2.1.2.1 v0.2.1.2.2) ++ (([(a0.2.1.1, .inr (5, [.ref a0.2.1.2.1.1, .ref a0.2.1.2.2.1.1, .ref a0.2.1.2.2.2.1, .int v0.1.2.2.2]))] : va_W)))))) (wLoom G a0.2.1.2.1 v0.1.1.1 v0.1.1.2.1 v0.1.1.2.2.1 v0.1.1.2.2.2.1 v0.1.1.2.2.2.2.1 v0.1.1.2.2.2.2.2) ((wGu G a0.2.1.2.2.1 v0.1.2.1.1 v0.1.2.1.2.1 v0.1.2.1.2.2) ++ ((wAc G a0.2.1.2.2.2 v0.1.2.2.1.1 v0.1.2.2.1.2.1 v0.1.2.2.1.2.2.1 v0.1.2.2.1.2.2.2.1 v0.1.2.2.1.2.2.2.2.1 v0.1.2.2.1.2.2.2.2.2.1 v0.1.2.2.1.2.2.2.2.2.2) ++ ((wSt G a0.2.2.2.1 v0.2.2.1.1 v0.2.2.1.2.1 v0.2.2.1.2.2.1 v0.2.2.1.2.2.2) ++ (wWays G a0.2.2.2.2.2.2 v0.2.2.2.2.2.2.1 v0.2.2.2.2.2.2.2.1 v0.2.2.2.2.2.2.2.2))))) rfl (pb (fun r4 u5 br4 hw => ?_))
    refine v_to (wCD G a0 v0.1 v0.2.1 v0.2.2.1 v0.2.2.2.1 v0.2.2.2.2.1 v0.2.2.2.2.2.1 v0.2.2.2.2.2.2) 20 [(0, .ref a0.1), (1, .int i0)] _ [.int r4] rfl rfl rfl rfl ?_
    refine v_if_eq (pc2 := 23) (tgt := 27) S dX8_can_20 (by decide) rfl (fun c6 => ?_) (fun c6 => ?_)
    · have hw := hw.1 c6
      refine v_iconst (v := 0) (pc2 := 28) S dX8_can_27 (by decide) rfl ?_
      exact v_iret S ⟨(0 : Int32), (), rfl, rfl, hw⟩ dX8_can_28
    · have hw := hw.2 c6
      refine v_iconst (v := 1) (pc2 := 24) S dX8_can_23 (by decide) rfl ?_
      refine v_goto (tgt := 28) S dX8_can_24 (by decide) ?_
      exact v_iret S ⟨(1 : Int32), (), rfl, rfl, hw⟩ dX8_can_28
  · have hw := hw.2 c3
    refine v_iconst (v := -1) (pc2 := 8) S dX8_can_7 (by decide) rfl ?_
    exact v_iret S ⟨(-1 : Int32), (), rfl, rfl, hw⟩ dX8_can_8
set_option maxHeartbeats 4000000 in
set_option maxRecDepth 100000 in
theorem c_X8_deeds (l : Launch) (G : GG) (a0 : CDA) (v0 : CDV) (i0 : Int32) (i1 : Int32) (i2 : Int32) (Q : Int32 → CDV → Prop) (hw : wp_X8_deeds v0 i0 i1 i2 Q) : Con l G yX8_deeds cX8_deeds 6 (some .int) { frames := 6, cells := 0, slots := 0, locals := 147 } [.ref a0.1, .int i0, .int i1, .int i2] (wCD G a0 v0.1 v0.2.1 v0.2.2.1 v0.2.2.2.1 v0.2.2.2.2.1 v0.2.2.2.2.2.1 v0.2.2.2.2.2.2) (PI (fun u : CDV => wCD G a0 u.1 u.2.1 u.2.2.1 u.2.2.2.1 u.2.2.2.2.1 u.2.2.2.2.2.1 u.2.2.2.2.2.2) Q) 0 0 := by
  refine con_of RX8 rfl (by decide) [(0, .ref a0.1), (1, .int i0), (2, .int i1), (3, .int i2)] rfl (Nat.le_of_ble_eq_true rfl) ?_
  intro p e s m args below meth c S hname
  refine v_iload_n (pc2 := 1) S 1 dX8_deeds_0 rfl rfl rfl ?_
  refine v_callS (pc2 := 4) (As := [.int i0]) (rest := []) S (c_X8_isGuest l G i0 _ hw) mf_X8_isGuest u_256 u_257 rfl rfl ⟨rfl, rfl⟩ ⟨Nat.le_of_ble_eq_true rfl, Nat.le_of_ble_eq_true rfl⟩ ⟨Nat.le_of_ble_eq_true rfl, Nat.le_of_ble_eq_true rfl⟩ (Nat.le_of_ble_eq_true rfl) dX8_deeds_1 (frM [] [] _) rfl (pb (fun r1 u2 br1 hw => ?_))
  refine v_to (wCD G a0 v0.1 v0.2.1 v0.2.2.1 v0.2.2.2.1 v0.2.2.2.2.1 v0.2.2.2.2.2.1 v0.2.2.2.2.2.2) 4 [(0, .ref a0.1), (1, .int i0), (2, .int i1), (3, .int i2)] _ [.int r1] rfl rfl rfl rfl ?_
  refine v_if_eq (pc2 := 7) (tgt := 14) S dX8_deeds_4 (by decide) rfl (fun c3 => ?_) (fun c3 => ?_)
  · have hw := hw.1 c3
    refine v_iconst (v := -1) (pc2 := 15) S dX8_deeds_14 (by decide) rfl ?_
    exact v_iret S ⟨(-1 : Int32), v0, rfl, rfl, hw⟩ dX8_deeds_15
  · have hw := hw.2 c3
    refine v_iload_n (pc2 := 8) S 2 dX8_deeds_7 rfl rfl rfl ?_
    refine v_callS (pc2 := 11) (As := [.int i1]) (rest := []) S (c_X8_isHall l G i1 _ hw) mf_X8_isHall u_321 u_322 rfl rfl ⟨rfl, rfl⟩ ⟨Nat.le_of_ble_eq_true rfl, Nat.le_of_ble_eq_true rfl⟩ ⟨Nat.le_of_ble_eq_true rfl, Nat.le_of_ble_eq_true rfl⟩ (Nat.le_of_ble_eq_true rfl) dX8_deeds_8 (frM [] [] _) rfl (pb (fun r4 u5 br4 hw => ?_))
    refine v_to (wCD G a0 v0.1 v0.2.1 v0.2.2.1 v0.2.2.2.1 v0.2.2.2.2.1 v0.2.2.2.2.2.1 v0.2.2.2.2.2.2) 11 [(0, .ref a0.1), (1, .int i0), (2, .int i1), (3, .int i2)] _ [.int r4] rfl rfl rfl rfl ?_
    refine v_if_ne (pc2 := 14) (tgt := 16) S dX8_deeds_11 (by decide) rfl (fun c6 => ?_) (fun c6 => ?_)
    · have hw := hw.1 c6
      refine v_aload_n (pc2 := 17) S 0 dX8_deeds_16 rfl rfl rfl ?_
      refine v_get (v := .ref a0.2.1.1) (pc2 := 20) S gf_X8_12 0 rfl rfl dX8_deeds_17 rfl ?_
      refine v_getN (v := .int v0.1.2.2.2) (pc2 := 23) S gf_X8_167 62 rfl rfl dX8_deeds_20 rfl ?_
      refine v_aload_n (pc2 := 24) S 0 dX8_deeds_23 rfl rfl rfl ?_
      refine v_get (v := .ref a0.2.1.1) (pc2 := 27) S gf_X8_12 0 rfl rfl dX8_deeds_24 rfl ?_
      refine v_getN (v := .ref a0.2.1.2.2.1.1) (pc2 := 30) S gf_X8_102 62 rfl rfl dX8_deeds_27 rfl ?_
      refine v_getN (v := .ref a0.2.1.2.2.1.2.1) (pc2 := 33) S gf_X8_206 69 rfl rfl dX8_deeds_30 rfl ?_
      refine v_iload_n (pc2 := 34) S 1 dX8_deeds_33 rfl rfl rfl ?_
      obtain ⟨h7, hw⟩ := hw
      refine v_iald (pc2 := 35) S 70 rfl h7 dX8_deeds_34 rfl ?_
      refine v_callS (pc2 := 38) (As := [.int v0.1.2.2.2, .int (v0.1.2.1.1 i0.toNatClampNeg)]) (rest := []) S (c_X8_spot l G v0.1.2.2.2 (v0.1.2.1.1 i0.toNatClampNeg) _ hw) mf_X8_spot u_324 u_325 rfl rfl ⟨rfl, rfl⟩ ⟨Nat.le_of_ble_eq_true rfl, Nat.le_of_ble_eq_true rfl⟩ ⟨Nat.le_of_ble_eq_true rfl, Nat.le_of_ble_eq_true rfl⟩ (Nat.le_of_ble_eq_true rfl) dX8_deeds_35 (frM [] [] _) rfl (pi (fun r8 u9 hw => ?_))
      refine v_to (wCD G a0 v0.1 v0.2.1 v0.2.2.1 v0.2.2.2.1 v0.2.2.2.2.1 v0.2.2.2.2.2.1 v0.2.2.2.2.2.2) 38 [(0, .ref a0.1), (1, .int i0), (2, .int i1), (3, .int i2)] _ [.int r8] rfl rfl rfl rfl ?_
      refine v_istore (lv2 := [(0, .ref a0.1), (1, .int i0), (2, .int i1), (3, .int i2), (4, .int r8)]) (pc2 := 40) S dX8_deeds_38 (by decide) [1, 2, 3, 4, 0] rfl rfl ?_
      refine v_aload_n (pc2 := 41) S 0 dX8_deeds_40 rfl rfl rfl ?_
      refine v_get (v := .ref a0.2.1.1) (pc2 := 44) S gf_X8_12 0 rfl rfl dX8_deeds_41 rfl ?_
      refine v_getN (v := .ref a0.2.1.2.2.1.1) (pc2 := 47) S gf_X8_102 62 rfl rfl dX8_deeds_44 rfl ?_
      refine v_getN (v := .ref a0.2.1.2.2.1.2.2.1) (pc2 := 50) S gf_X8_106 69 rfl rfl dX8_deeds_47 rfl ?_
      refine v_iload_n (pc2 := 51) S 1 dX8_deeds_50 rfl rfl rfl ?_
      obtain ⟨h10, hw⟩ := hw
      refine v_iald (pc2 := 52) S 71 rfl h10 dX8_deeds_51 rfl ?_
      refine v_nm (fun z11 ez11 => ?_)
      have hw := hw z11 ez11
      refine v_istore (lv2 := [(0, .ref a0.1), (1, .int i0), (2, .int i1), (3, .int i2), (4, .int r8), (5, .int z11)]) (pc2 := 54) S dX8_deeds_52 (by decide) [1, 2, 3, 4, 5, 0] rfl rfl ?_
      refine v_iload_n (pc2 := 55) S 3 dX8_deeds_54 rfl rfl rfl ?_
      by_cases c12 : i2 = (0 : Int32)
      · have hw := hw.1 c12
        refine v_lookup (off := 25) (tgt := 80) S dX8_deeds_55 (by decide) (by rw [c12]; decide) (by decide) ?_
        refine v_aload_n (pc2 := 81) S 0 dX8_deeds_80 rfl rfl rfl ?_
        refine v_get (v := .ref a0.2.2.2.2.2.2.1) (pc2 := 84) S gf_X8_47 0 rfl rfl dX8_deeds_81 rfl ?_
        refine v_aload_n (pc2 := 85) S 0 dX8_deeds_84 rfl rfl rfl ?_
        refine v_get (v := .ref a0.2.1.1) (pc2 := 88) S gf_X8_12 0 rfl rfl dX8_deeds_85 rfl ?_
        refine v_getN (v := .ref a0.2.1.2.1.1) (pc2 := 91) S gf_X8_66 62 rfl rfl dX8_deeds_88 rfl ?_
        refine v_iload (pc2 := 93) S 4 dX8_deeds_91 rfl rfl ?_
        refine v_iload (pc2 := 95) S 5 dX8_deeds_93 rfl rfl ?_
        refine v_iload_n (pc2 := 96) S 2 dX8_deeds_95 rfl rfl rfl ?_
        refine v_callV (pc2 := 99) (As := [.ref a0.2.1.2.1.1, .int r8, .int z11, .int i1]) (rest := []) S (c_X7_fromNowOn l G a0.2.2.2.2.2.2 a0.2.1.2.1 v0.2.2.2.2.2.2 v0.1.1 r8 z11 i1 _ hw) mf_X7_fromNowOn u_327 u_328 u_329 0 7 rfl rfl rfl rfl ⟨rfl, rfl⟩ ⟨Nat.le_of_ble_eq_true rfl, Nat.le_of_ble_eq_true rfl⟩ ⟨Nat.le_of_ble_eq_true rfl, Nat.le_of_ble_eq_true rfl⟩ (Nat.le_of_ble_eq_true rfl) dX8_deeds_96 (frP (Rs := ([(a0.1, .inr (8, [.ref a0.2.1.1, .ref a0.2.2.1.1, .ref a0.2.2.2.1.1, .int v0.2.2.2.1, .ref a0.2.2.2.2.1.1, .ref a0.2.2.2.2.2.1, .ref a0.2.2.2.2.2.2.1]))] : va_W) ++ ((wPad G a0.2.2.2.2.1 v0.2.2.2.2.1.1 v0.2.2.2.2.1.2) ++ ((wStop G a0.2.2.2.2.2.1 v0.2.2.2.2.2.1.1 v0.2.2.2.2.2.1.2.1 v0.2.2.2.2.2.1.2.2) ++ ((wHist G a0.2.2.1 v0.2.1.1 v0.2.1.2.1 v0.2.1.2.2) ++ (([(a0.2.1.1, .inr (5, [.ref a0.2.1.2.1.1, .ref a0.2.1.2.2.1.1, .ref a0.2.1.2.2.2.1, .int v0.1.2.2.2]))] : va_W) ++ ((wGu G a0.2.1.2.2.1 v0.1.2.1.1 v0.1.2.1.2.1 v0.1.2.1.2.2) ++ ((wAc G a0.2.1.2.2.2 v0.1.2.2.1.1 v0.1.2.2.1.2.1 v0.1.2.2.1.2.2.1 v0.1.2.2.1.2.2.2.1 v0.1.2.2.1.2.2.2.2.1 v0.1.2.2.1.2.2.2.2.2.1 v0.1.2.2.1.2.2.2.2.2.2) ++ (wSt G a0.2.2.2.1 v0.2.2.1.1 v0.2.2.1.2.1 v0.2.2.1.2.2.1 v0.2.2.1.2.2.2)))))))) (gperm [[(a0.1, .inr (8, [.ref a0.2.1.1, .ref a0.2.2.1.1, .ref a0.2.2.2.1.1, .int v0.2.2.2.1, .ref a0.2.2.2.2.1.1, .ref a0.2.2.2.2.2.1, .ref a0.2.2.2.2.2.2.1]))], wPad G a0.2.2.2.2.1 v0.2.2.2.2.1.1 v0.2.2.2.2.1.2, wStop G a0.2.2.2.2.2.1 v0.2.2.2.2.2.1.1 v0.2.2.2.2.2.1.2.1 v0.2.2.2.2.2.1.2.2, wHist G a0.2.2.1 v0.2.1.1 v0.2.1.2.1 v0.2.1.2.2, [(a0.2.1.1, .inr (5, [.ref a0.2.1.2.1.1, .ref a0.2.1.2.2.1.1, .ref a0.2.1.2.2.2.1, .int v0.1.2.2.2]))], wLoom G a0.2.1.2.1 v0.1.1.1 v0.1.1.2.1 v0.1.1.2.2.1 v0.1.1.2.2.2.1 v0.1.1.2.2.2.2.1 v0.1.1.2.2.2.2.2, wGu G a0.2.1.2.2.1 v0.1.2.1.1 v0.1.2.1.2.1 v0.1.2.1.2.2, wAc G a0.2.1.2.2.2 v0.1.2.2.1.1 v0.1.2.2.1.2.1 v0.1.2.2.1.2.2.1 v0.1.2.2.1.2.2.2.1 v0.1.2.2.1.2.2.2.2.1 v0.1.2.2.1.2.2.2.2.2.1 v0.1.2.2.1.2.2.2.2.2.2, wSt G a0.2.2.2.1 v0.2.2.1.1 v0.2.2.1.2.1 v0.2.2.1.2.2.1 v0.2.2.1.2.2.2, wWays G a0.2.2.2.2.2.2 v0.2.2.2.2.2.2.1 v0.2.2.2.2.2.2.2.1 v0.2.2.2.2.2.2.2.2] [9, 5, 0, 1, 2, 3, 4, 6, 7, 8] rfl)) rfl (pi (fun r13 u14 hw => ?_))
        refine v_perm _ (gperm [wWays G a0.2.2.2.2.2.2 u14.1 u14.2.1 u14.2.2, wLoom G a0.2.1.2.1 v0.1.1.1 v0.1.1.2.1 v0.1.1.2.2.1 v0.1.1.2.2.2.1 v0.1.1.2.2.2.2.1 v0.1.1.2.2.2.2.2, [(a0.1, .inr (8, [.ref a0.2.1.1, .ref a0.2.2.1.1, .ref a0.2.2.2.1.1, .int v0.2.2.2.1, .ref a0.2.2.2.2.1.1, .ref a0.2.2.2.2.2.1, .ref a0.2.2.2.2.2.2.1]))], wPad G a0.2.2.2.2.1 v0.2.2.2.2.1.1 v0.2.2.2.2.1.2, wStop G a0.2.2.2.2.2.1 v0.2.2.2.2.2.1.1 v0.2.2.2.2.2.1.2.1 v0.2.2.2.2.2.1.2.2, wHist G a0.2.2.1 v0.2.1.1 v0.2.1.2.1 v0.2.1.2.2, [(a0.2.1.1, .inr (5, [.ref a0.2.1.2.1.1, .ref a0.2.1.2.2.1.1, .ref a0.2.1.2.2.2.1, .int v0.1.2.2.2]))], wGu G a0.2.1.2.2.1 v0.1.2.1.1 v0.1.2.1.2.1 v0.1.2.1.2.2, wAc G a0.2.1.2.2.2 v0.1.2.2.1.1 v0.1.2.2.1.2.1 v0.1.2.2.1.2.2.1 v0.1.2.2.1.2.2.2.1 v0.1.2.2.1.2.2.2.2.1 v0.1.2.2.1.2.2.2.2.2.1 v0.1.2.2.1.2.2.2.2.2.2, wSt G a0.2.2.2.1 v0.2.2.1.1 v0.2.2.1.2.1 v0.2.2.1.2.2.1 v0.2.2.1.2.2.2] [2, 3, 4, 5, 6, 1, 7, 8, 9, 0] rfl) ?_
        refine v_to (wCD G a0 v0.1 v0.2.1 v0.2.2.1 v0.2.2.2.1 v0.2.2.2.2.1 v0.2.2.2.2.2.1 u14) 99 [(0, .ref a0.1), (1, .int i0), (2, .int i1), (3, .int i2), (4, .int r8), (5, .int z11)] _ [.int r13] rfl rfl rfl rfl ?_
        exact v_iret S ⟨r13, (v0.1, v0.2.1, v0.2.2.1, v0.2.2.2.1, v0.2.2.2.2.1, v0.2.2.2.2.2.1, u14), rfl, rfl, hw⟩ dX8_deeds_99
      · have hw := hw.2
        by_cases c15 : i2 = (1 : Int32)
        · have hw := hw.1 c15
          refine v_lookup (off := 45) (tgt := 100) S dX8_deeds_55 (by decide) (by rw [c15]; decide) (by decide) ?_
          refine v_aload_n (pc2 := 101) S 0 dX8_deeds_100 rfl rfl rfl ?_
          refine v_get (v := .ref a0.2.2.2.2.2.2.1) (pc2 := 104) S gf_X8_47 0 rfl rfl dX8_deeds_101 rfl ?_
          refine v_aload_n (pc2 := 105) S 0 dX8_deeds_104 rfl rfl rfl ?_
          refine v_get (v := .ref a0.2.1.1) (pc2 := 108) S gf_X8_12 0 rfl rfl dX8_deeds_105 rfl ?_
          refine v_getN (v := .ref a0.2.1.2.1.1) (pc2 := 111) S gf_X8_66 62 rfl rfl dX8_deeds_108 rfl ?_
          refine v_iload (pc2 := 113) S 4 dX8_deeds_111 rfl rfl ?_
          refine v_iload (pc2 := 115) S 5 dX8_deeds_113 rfl rfl ?_
          refine v_iload_n (pc2 := 116) S 2 dX8_deeds_115 rfl rfl rfl ?_
          refine v_callV (pc2 := 119) (As := [.ref a0.2.1.2.1.1, .int r8, .int z11, .int i1]) (rest := []) S (c_X7_fromHallBack l G a0.2.2.2.2.2.2 a0.2.1.2.1 v0.2.2.2.2.2.2 v0.1.1 r8 z11 i1 _ hw) mf_X7_fromHallBack u_370 u_371 u_372 0 7 rfl rfl rfl rfl ⟨rfl, rfl⟩ ⟨Nat.le_of_ble_eq_true rfl, Nat.le_of_ble_eq_true rfl⟩ ⟨Nat.le_of_ble_eq_true rfl, Nat.le_of_ble_eq_true rfl⟩ (Nat.le_of_ble_eq_true rfl) dX8_deeds_116 (frP (Rs := ([(a0.1, .inr (8, [.ref a0.2.1.1, .ref a0.2.2.1.1, .ref a0.2.2.2.1.1, .int v0.2.2.2.1, .ref a0.2.2.2.2.1.1, .ref a0.2.2.2.2.2.1, .ref a0.2.2.2.2.2.2.1]))] : va_W) ++ ((wPad G a0.2.2.2.2.1 v0.2.2.2.2.1.1 v0.2.2.2.2.1.2) ++ ((wStop G a0.2.2.2.2.2.1 v0.2.2.2.2.2.1.1 v0.2.2.2.2.2.1.2.1 v0.2.2.2.2.2.1.2.2) ++ ((wHist G a0.2.2.1 v0.2.1.1 v0.2.1.2.1 v0.2.1.2.2) ++ (([(a0.2.1.1, .inr (5, [.ref a0.2.1.2.1.1, .ref a0.2.1.2.2.1.1, .ref a0.2.1.2.2.2.1, .int v0.1.2.2.2]))] : va_W) ++ ((wGu G a0.2.1.2.2.1 v0.1.2.1.1 v0.1.2.1.2.1 v0.1.2.1.2.2) ++ ((wAc G a0.2.1.2.2.2 v0.1.2.2.1.1 v0.1.2.2.1.2.1 v0.1.2.2.1.2.2.1 v0.1.2.2.1.2.2.2.1 v0.1.2.2.1.2.2.2.2.1 v0.1.2.2.1.2.2.2.2.2.1 v0.1.2.2.1.2.2.2.2.2.2) ++ (wSt G a0.2.2.2.1 v0.2.2.1.1 v0.2.2.1.2.1 v0.2.2.1.2.2.1 v0.2.2.1.2.2.2)))))))) (gperm [[(a0.1, .inr (8, [.ref a0.2.1.1, .ref a0.2.2.1.1, .ref a0.2.2.2.1.1, .int v0.2.2.2.1, .ref a0.2.2.2.2.1.1, .ref a0.2.2.2.2.2.1, .ref a0.2.2.2.2.2.2.1]))], wPad G a0.2.2.2.2.1 v0.2.2.2.2.1.1 v0.2.2.2.2.1.2, wStop G a0.2.2.2.2.2.1 v0.2.2.2.2.2.1.1 v0.2.2.2.2.2.1.2.1 v0.2.2.2.2.2.1.2.2, wHist G a0.2.2.1 v0.2.1.1 v0.2.1.2.1 v0.2.1.2.2, [(a0.2.1.1, .inr (5, [.ref a0.2.1.2.1.1, .ref a0.2.1.2.2.1.1, .ref a0.2.1.2.2.2.1, .int v0.1.2.2.2]))], wLoom G a0.2.1.2.1 v0.1.1.1 v0.1.1.2.1 v0.1.1.2.2.1 v0.1.1.2.2.2.1 v0.1.1.2.2.2.2.1 v0.1.1.2.2.2.2.2, wGu G a0.2.1.2.2.1 v0.1.2.1.1 v0.1.2.1.2.1 v0.1.2.1.2.2, wAc G a0.2.1.2.2.2 v0.1.2.2.1.1 v0.1.2.2.1.2.1 v0.1.2.2.1.2.2.1 v0.1.2.2.1.2.2.2.1 v0.1.2.2.1.2.2.2.2.1 v0.1.2.2.1.2.2.2.2.2.1 v0.1.2.2.1.2.2.2.2.2.2, wSt G a0.2.2.2.1 v0.2.2.1.1 v0.2.2.1.2.1 v0.2.2.1.2.2.1 v0.2.2.1.2.2.2, wWays G a0.2.2.2.2.2.2 v0.2.2.2.2.2.2.1 v0.2.2.2.2.2.2.2.1 v0.2.2.2.2.2.2.2.2] [9, 5, 0, 1, 2, 3, 4, 6, 7, 8] rfl)) rfl (pi (fun r16 u17 hw => ?_))
          refine v_perm _ (gperm [wWays G a0.2.2.2.2.2.2 u17.1 u17.2.1 u17.2.2, wLoom G a0.2.1.2.1 v0.1.1.1 v0.1.1.2.1 v0.1.1.2.2.1 v0.1.1.2.2.2.1 v0.1.1.2.2.2.2.1 v0.1.1.2.2.2.2.2, [(a0.1, .inr (8, [.ref a0.2.1.1, .ref a0.2.2.1.1, .ref a0.2.2.2.1.1, .int v0.2.2.2.1, .ref a0.2.2.2.2.1.1, .ref a0.2.2.2.2.2.1, .ref a0.2.2.2.2.2.2.1]))], wPad G a0.2.2.2.2.1 v0.2.2.2.2.1.1 v0.2.2.2.2.1.2, wStop G a0.2.2.2.2.2.1 v0.2.2.2.2.2.1.1 v0.2.2.2.2.2.1.2.1 v0.2.2.2.2.2.1.2.2, wHist G a0.2.2.1 v0.2.1.1 v0.2.1.2.1 v0.2.1.2.2, [(a0.2.1.1, .inr (5, [.ref a0.2.1.2.1.1, .ref a0.2.1.2.2.1.1, .ref a0.2.1.2.2.2.1, .int v0.1.2.2.2]))], wGu G a0.2.1.2.2.1 v0.1.2.1.1 v0.1.2.1.2.1 v0.1.2.1.2.2, wAc G a0.2.1.2.2.2 v0.1.2.2.1.1 v0.1.2.2.1.2.1 v0.1.2.2.1.2.2.1 v0.1.2.2.1.2.2.2.1 v0.1.2.2.1.2.2.2.2.1 v0.1.2.2.1.2.2.2.2.2.1 v0.1.2.2.1.2.2.2.2.2.2, wSt G a0.2.2.2.1 v0.2.2.1.1 v0.2.2.1.2.1 v0.2.2.1.2.2.1 v0.2.2.1.2.2.2] [2, 3, 4, 5, 6, 1, 7, 8, 9, 0] rfl) ?_
          refine v_to (wCD G a0 v0.1 v0.2.1 v0.2.2.1 v0.2.2.2.1 v0.2.2.2.2.1 v0.2.2.2.2.2.1 u17) 119 [(0, .ref a0.1), (1, .int i0), (2, .int i1), (3, .int i2), (4, .int r8), (5, .int z11)] _ [.int r16] rfl rfl rfl rfl ?_
          exact v_iret S ⟨r16, (v0.1, v0.2.1, v0.2.2.1, v0.2.2.2.1, v0.2.2.2.2.1, v0.2.2.2.2.2.1, u17), rfl, rfl, hw⟩ dX8_deeds_119
        · have hw := hw.2
          have hw := hw c12 c15
          refine v_lookup (off := 65) (tgt := 120) S dX8_deeds_55 (by decide) (lk_out0_1 c12 c15) (by decide) ?_
          refine v_iconst (v := -1) (pc2 := 121) S dX8_deeds_120 (by decide) rfl ?_
          exact v_iret S ⟨(-1 : Int32), v0, rfl, rfl, hw⟩ dX8_deeds_121
    · have hw := hw.2 c6
      refine v_iconst (v := -1) (pc2 := 15) S dX8_deeds_14 (by decide) rfl ?_
      exact v_iret S ⟨(-1 : Int32), v0, rfl, rfl, hw⟩ dX8_deeds_15
set_option maxHeartbeats 4000000 in
set_option maxRecDepth 100000 in
theorem c_X8_count (l : Launch) (G : GG) (a0 : CDA) (v0 : CDV) (i0 : Int32) (Q : Int32 → Prop) (hw : wp_X8_count v0 i0 Q) : Con l G yX8_count cX8_count 4 (some .int) { frames := 3, cells := 0, slots := 0, locals := 70 } [.ref a0.1, .int i0] (wCD G a0 v0.1 v0.2.1 v0.2.2.1 v0.2.2.2.1 v0.2.2.2.2.1 v0.2.2.2.2.2.1 v0.2.2.2.2.2.2) (PI (fun _ : Unit => wCD G a0 v0.1 v0.2.1 v0.2.2.1 v0.2.2.2.1 v0.2.2.2.2.1 v0.2.2.2.2.2.1 v0.2.2.2.2.2.2) (fun r _ => Q r)) 0 0 := by
  refine con_of RX8 rfl (by decide) [(0, .ref a0.1), (1, .int i0)] rfl (Nat.le_of_ble_eq_true rfl) ?_
  intro p e s m args below meth c S hname
  refine v_aload_n (pc2 := 1) S 0 dX8_count_0 rfl rfl rfl ?_
  refine v_get (v := .ref a0.2.1.1) (pc2 := 4) S gf_X8_12 0 rfl rfl dX8_count_1 rfl ?_
  refine v_getN (v := .ref a0.2.1.2.1.1) (pc2 := 7) S gf_X8_66 62 rfl rfl dX8_count_4 rfl ?_
  refine v_astore_n (lv2 := [(0, .ref a0.1), (1, .int i0), (2, .ref a0.2.1.2.1.1)]) (pc2 := 8) S dX8_count_7 rfl (by decide) [1, 2, 0] rfl rfl ?_
  refine v_aload_n (pc2 := 9) S 0 dX8_count_8 rfl rfl rfl ?_
  refine v_get (v := .ref a0.2.1.1) (pc2 := 12) S gf_X8_12 0 rfl rfl dX8_count_9 rfl ?_
  refine v_getN (v := .ref a0.2.1.2.2.2.1) (pc2 := 15) S gf_X8_180 62 rfl rfl dX8_count_12 rfl ?_
  refine v_astore_n (lv2 := [(0, .ref a0.1), (1, .int i0), (2, .ref a0.2.1.2.1.1), (3, .ref a0.2.1.2.2.2.1)]) (pc2 := 16) S dX8_count_15 rfl (by decide) [1, 2, 3, 0] rfl rfl ?_
  refine v_iload_n (pc2 := 17) S 1 dX8_count_16 rfl rfl rfl ?_
  by_cases c1 : i0 = (0 : Int32)
  · have hw := hw.1 c1
    refine v_tableIn (off := 75) (tgt := 92) S dX8_count_17 (by rw [c1]; decide) (by rw [c1]; decide) (by rw [c1]; rfl) (by decide) ?_
    refine v_aload_n (pc2 := 93) S 0 dX8_count_92 rfl rfl rfl ?_
    refine v_get (v := .ref a0.2.1.1) (pc2 := 96) S gf_X8_12 0 rfl rfl dX8_count_93 rfl ?_
    refine v_getN (v := .int v0.1.2.2.2) (pc2 := 99) S gf_X8_167 62 rfl rfl dX8_count_96 rfl ?_
    exact v_iret S ⟨v0.1.2.2.2, (), rfl, rfl, hw⟩ dX8_count_99
  · have hw := hw.2
    by_cases c2 : i0 = (1 : Int32)
    · have hw := hw.1 c2
      refine v_tableIn (off := 83) (tgt := 100) S dX8_count_17 (by rw [c2]; decide) (by rw [c2]; decide) (by rw [c2]; rfl) (by decide) ?_
      refine v_aload_n (pc2 := 101) S 0 dX8_count_100 rfl rfl rfl ?_
      refine v_get (v := .ref a0.2.1.1) (pc2 := 104) S gf_X8_12 0 rfl rfl dX8_count_101 rfl ?_
      refine v_getN (v := .int v0.1.2.2.2) (pc2 := 107) S gf_X8_167 62 rfl rfl dX8_count_104 rfl ?_
      refine v_callS (pc2 := 110) (As := [.int v0.1.2.2.2]) (rest := []) S (c_J6_bitCount_0f7a4 l G v0.1.2.2.2 _ hw) mf_J6_bitCount_0f7a4 u_402 u_312 rfl rfl ⟨rfl, rfl⟩ ⟨Nat.le_of_ble_eq_true rfl, Nat.le_of_ble_eq_true rfl⟩ ⟨Nat.le_of_ble_eq_true rfl, Nat.le_of_ble_eq_true rfl⟩ (Nat.le_of_ble_eq_true rfl) dX8_count_107 (frM [] [] _) rfl (pi (fun r3 u4 hw => ?_))
      refine v_to (wCD G a0 v0.1 v0.2.1 v0.2.2.1 v0.2.2.2.1 v0.2.2.2.2.1 v0.2.2.2.2.2.1 v0.2.2.2.2.2.2) 110 [(0, .ref a0.1), (1, .int i0), (2, .ref a0.2.1.2.1.1), (3, .ref a0.2.1.2.2.2.1)] _ [.int r3] rfl rfl rfl rfl ?_
      exact v_iret S ⟨r3, (), rfl, rfl, hw⟩ dX8_count_110
    · have hw := hw.2
      by_cases c5 : i0 = (2 : Int32)
      · have hw := hw.1 c5
        refine v_tableIn (off := 94) (tgt := 111) S dX8_count_17 (by rw [c5]; decide) (by rw [c5]; decide) (by rw [c5]; rfl) (by decide) ?_
        refine v_aload_n (pc2 := 112) S 2 dX8_count_111 rfl rfl rfl ?_
        refine v_aload_n (pc2 := 113) S 0 dX8_count_112 rfl rfl rfl ?_
        refine v_get (v := .ref a0.2.1.1) (pc2 := 116) S gf_X8_12 0 rfl rfl dX8_count_113 rfl ?_
        refine v_getN (v := .int v0.1.2.2.2) (pc2 := 119) S gf_X8_167 62 rfl rfl dX8_count_116 rfl ?_
        refine v_callV (pc2 := 122) (As := [.int v0.1.2.2.2]) (rest := []) S (c_X3_cordsOf l G a0.2.1.2.1 v0.1.1 v0.1.2.2.2 _ hw) mf_X3_cordsOf u_403 u_404 u_405 0 3 rfl rfl rfl rfl ⟨rfl, rfl⟩ ⟨Nat.le_of_ble_eq_true rfl, Nat.le_of_ble_eq_true rfl⟩ ⟨Nat.le_of_ble_eq_true rfl, Nat.le_of_ble_eq_true rfl⟩ (Nat.le_of_ble_eq_true rfl) dX8_count_119 (frM (([(a0.1, .inr (8, [.ref a0.2.1.1, .ref a0.2.2.1.1, .ref a0.2.2.2.1.1, .int v0.2.2.2.1, .ref a0.2.2.2.2.1.1, .ref a0.2.2.2.2.2.1, .ref a0.2.2.2.2.2.2.1]))] : va_W) ++ ((wPad G a0.2.2.2.2.1 v0.2.2.2.2.1.1 v0.2.2.2.2.1.2) ++ ((wStop G a0.2.2.2.2.2.1 v0.2.2.2.2.2.1.1 v0.2.2.2.2.2.1.2.1 v0.2.2.2.2.2.1.2.2) ++ ((wHist G a0.2.2.1 v0.2.1.1 v0.2.1.2.1 v0.2.1.2.2) ++ (([(a0.2.1.1, .inr (5, [.ref a0.2.1.2.1.1, .ref a0.2.1.2.2.1.1, .ref a0.2.1.2.2.2.1, .int v0.1.2.2.2]))] : va_W)))))) (wLoom G a0.2.1.2.1 v0.1.1.1 v0.1.1.2.1 v0.1.1.2.2.1 v0.1.1.2.2.2.1 v0.1.1.2.2.2.2.1 v0.1.1.2.2.2.2.2) ((wGu G a0.2.1.2.2.1 v0.1.2.1.1 v0.1.2.1.2.1 v0.1.2.1.2.2) ++ ((wAc G a0.2.1.2.2.2 v0.1.2.2.1.1 v0.1.2.2.1.2.1 v0.1.2.2.1.2.2.1 v0.1.2.2.1.2.2.2.1 v0.1.2.2.1.2.2.2.2.1 v0.1.2.2.1.2.2.2.2.2.1 v0.1.2.2.1.2.2.2.2.2.2) ++ ((wSt G a0.2.2.2.1 v0.2.2.1.1 v0.2.2.1.2.1 v0.2.2.1.2.2.1 v0.2.2.1.2.2.2) ++ (wWays G a0.2.2.2.2.2.2 v0.2.2.2.2.2.2.1 v0.2.2.2.2.2.2.2.1 v0.2.2.2.2.2.2.2.2))))) rfl (pi (fun r6 u7 hw => ?_))
        refine v_to (wCD G a0 v0.1 v0.2.1 v0.2.2.1 v0.2.2.2.1 v0.2.2.2.2.1 v0.2.2.2.2.2.1 v0.2.2.2.2.2.2) 122 [(0, .ref a0.1), (1, .int i0), (2, .ref a0.2.1.2.1.1), (3, .ref a0.2.1.2.2.2.1)] _ [.int r6] rfl rfl rfl rfl ?_
        exact v_iret S ⟨r6, (), rfl, rfl, hw⟩ dX8_count_122
      · have hw := hw.2
        by_cases c8 : i0 = (3 : Int32)
        · have hw := hw.1 c8
          refine v_tableIn (off := 106) (tgt := 123) S dX8_count_17 (by rw [c8]; decide) (by rw [c8]; decide) (by rw [c8]; rfl) (by decide) ?_
          refine v_aload_n (pc2 := 124) S 2 dX8_count_123 rfl rfl rfl ?_
          refine v_aload_n (pc2 := 125) S 0 dX8_count_124 rfl rfl rfl ?_
          refine v_get (v := .ref a0.2.1.1) (pc2 := 128) S gf_X8_12 0 rfl rfl dX8_count_125 rfl ?_
          refine v_callV (pc2 := 131) (As := []) (rest := [.ref a0.2.1.2.1.1]) S (c_X5_shutDoors l G a0.2.1 v0.1 _ hw) mf_X5_shutDoors u_407 u_408 u_409 0 5 rfl rfl rfl rfl ⟨rfl, rfl⟩ ⟨Nat.le_of_ble_eq_true rfl, Nat.le_of_ble_eq_true rfl⟩ ⟨Nat.le_of_ble_eq_true rfl, Nat.le_of_ble_eq_true rfl⟩ (Nat.le_of_ble_eq_true rfl) dX8_count_128 (frM (([(a0.1, .inr (8, [.ref a0.2.1.1, .ref a0.2.2.1.1, .ref a0.2.2.2.1.1, .int v0.2.2.2.1, .ref a0.2.2.2.2.1.1, .ref a0.2.2.2.2.2.1, .ref a0.2.2.2.2.2.2.1]))] : va_W) ++ ((wPad G a0.2.2.2.2.1 v0.2.2.2.2.1.1 v0.2.2.2.2.1.2) ++ ((wStop G a0.2.2.2.2.2.1 v0.2.2.2.2.2.1.1 v0.2.2.2.2.2.1.2.1 v0.2.2.2.2.2.1.2.2) ++ (wHist G a0.2.2.1 v0.2.1.1 v0.2.1.2.1 v0.2.1.2.2)))) (wSt G a0.2.1 v0.1.1 v0.1.2.1 v0.1.2.2.1 v0.1.2.2.2) ((wSt G a0.2.2.2.1 v0.2.2.1.1 v0.2.2.1.2.1 v0.2.2.1.2.2.1 v0.2.2.1.2.2.2) ++ (wWays G a0.2.2.2.2.2.2 v0.2.2.2.2.2.2.1 v0.2.2.2.2.2.2.2.1 v0.2.2.2.2.2.2.2.2))) rfl (pi (fun r9 u10 hw => ?_))
          refine v_to (wCD G a0 v0.1 v0.2.1 v0.2.2.1 v0.2.2.2.1 v0.2.2.2.2.1 v0.2.2.2.2.2.1 v0.2.2.2.2.2.2) 131 [(0, .ref a0.1), (1, .int i0), (2, .ref a0.2.1.2.1.1), (3, .ref a0.2.1.2.2.2.1)] _ [.int r9, .ref a0.2.1.2.1.1] rfl rfl rfl rfl ?_
          refine v_callV (pc2 := 134) (As := [.int r9]) (rest := []) S (c_X3_cordsOf l G a0.2.1.2.1 v0.1.1 r9 _ hw) mf_X3_cordsOf u_403 u_404 u_405 0 3 rfl rfl rfl rfl ⟨rfl, rfl⟩ ⟨Nat.le_of_ble_eq_true rfl, Nat.le_of_ble_eq_true rfl⟩ ⟨Nat.le_of_ble_eq_true rfl, Nat.le_of_ble_eq_true rfl⟩ (Nat.le_of_ble_eq_true rfl) dX8_count_131 (frM (([(a0.1, .inr (8, [.ref a0.2.1.1, .ref a0.2.2.1.1, .ref a0.2.2.2.1.1, .int v0.2.2.2.1, .ref a0.2.2.2.2.1.1, .ref a0.2.2.2.2.2.1, .ref a0.2.2.2.2.2.2.1]))] : va_W) ++ ((wPad G a0.2.2.2.2.1 v0.2.2.2.2.1.1 v0.2.2.2.2.1.2) ++ ((wStop G a0.2.2.2.2.2.1 v0.2.2.2.2.2.1.1 v0.2.2.2.2.2.1.2.1 v0.2.2.2.2.2.1.2.2) ++ ((wHist G a0.2.2.1 v0.2.1.1 v0.2.1.2.1 v0.2.1.2.2) ++ (([(a0.2.1.1, .inr (5, [.ref a0.2.1.2.1.1, .ref a0.2.1.2.2.1.1, .ref a0.2.1.2.2.2.1, .int v0.1.2.2.2]))] : va_W)))))) (wLoom G a0.2.1.2.1 v0.1.1.1 v0.1.1.2.1 v0.1.1.2.2.1 v0.1.1.2.2.2.1 v0.1.1.2.2.2.2.1 v0.1.1.2.2.2.2.2) ((wGu G a0.2.1.2.2.1 v0.1.2.1.1 v0.1.2.1.2.1 v0.1.2.1.2.2) ++ ((wAc G a0.2.1.2.2.2 v0.1.2.2.1.1 v0.1.2.2.1.2.1 v0.1.2.2.1.2.2.1 v0.1.2.2.1.2.2.2.1 v0.1.2.2.1.2.2.2.2.1 v0.1.2.2.1.2.2.2.2.2.1 v0.1.2.2.1.2.2.2.2.2.2) ++ ((wSt G a0.2.2.2.1 v0.2.2.1.1 v0.2.2.1.2.1 v0.2.2.1.2.2.1 v0.2.2.1.2.2.2) ++ (wWays G a0.2.2.2.2.2.2 v0.2.2.2.2.2.2.1 v0.2.2.2.2.2.2.2.1 v0.2.2.2.2.2.2.2.2))))) rfl (pi (fun r11 u12 hw => ?_))
          refine v_to (wCD G a0 v0.1 v0.2.1 v0.2.2.1 v0.2.2.2.1 v0.2.2.2.2.1 v0.2.2.2.2.2.1 v0.2.2.2.2.2.2) 134 [(0, .ref a0.1), (1, .int i0), (2, .ref a0.2.1.2.1.1), (3, .ref a0.2.1.2.2.2.1)] _ [.int r11] rfl rfl rfl rfl ?_
          exact v_iret S ⟨r11, (), rfl, rfl, hw⟩ dX8_count_134
        · have hw := hw.2
          by_cases c13 : i0 = (4 : Int32)
          · have hw := hw.1 c13
            refine v_tableIn (off := 118) (tgt := 135) S dX8_count_17 (by rw [c13]; decide) (by rw [c13]; decide) (by rw [c13]; rfl) (by decide) ?_
            refine v_aload_n (pc2 := 136) S 2 dX8_count_135 rfl rfl rfl ?_
            refine v_aload_n (pc2 := 137) S 0 dX8_count_136 rfl rfl rfl ?_
            refine v_get (v := .ref a0.2.1.1) (pc2 := 140) S gf_X8_12 0 rfl rfl dX8_count_137 rfl ?_
            refine v_getN (v := .int v0.1.2.2.2) (pc2 := 143) S gf_X8_167 62 rfl rfl dX8_count_140 rfl ?_
            refine v_callV (pc2 := 146) (As := [.int v0.1.2.2.2]) (rest := []) S (c_X3_heldBy l G a0.2.1.2.1 v0.1.1 v0.1.2.2.2 _ hw) mf_X3_heldBy u_411 u_287 u_288 0 3 rfl rfl rfl rfl ⟨rfl, rfl⟩ ⟨Nat.le_of_ble_eq_true rfl, Nat.le_of_ble_eq_true rfl⟩ ⟨Nat.le_of_ble_eq_true rfl, Nat.le_of_ble_eq_true rfl⟩ (Nat.le_of_ble_eq_true rfl) dX8_count_143 (frM (([(a0.1, .inr (8, [.ref a0.2.1.1, .ref a0.2.2.1.1, .ref a0.2.2.2.1.1, .int v0.2.2.2.1, .ref a0.2.2.2.2.1.1, .ref a0.2.2.2.2.2.1, .ref a0.2.2.2.2.2.2.1]))] : va_W) ++ ((wPad G a0.2.2.2.2.1 v0.2.2.2.2.1.1 v0.2.2.2.2.1.2) ++ ((wStop G a0.2.2.2.2.2.1 v0.2.2.2.2.2.1.1 v0.2.2.2.2.2.1.2.1 v0.2.2.2.2.2.1.2.2) ++ ((wHist G a0.2.2.1 v0.2.1.1 v0.2.1.2.1 v0.2.1.2.2) ++ (([(a0.2.1.1, .inr (5, [.ref a0.2.1.2.1.1, .ref a0.2.1.2.2.1.1, .ref a0.2.1.2.2.2.1, .int v0.1.2.2.2]))] : va_W)))))) (wLoom G a0.2.1.2.1 v0.1.1.1 v0.1.1.2.1 v0.1.1.2.2.1 v0.1.1.2.2.2.1 v0.1.1.2.2.2.2.1 v0.1.1.2.2.2.2.2) ((wGu G a0.2.1.2.2.1 v0.1.2.1.1 v0.1.2.1.2.1 v0.1.2.1.2.2) ++ ((wAc G a0.2.1.2.2.2 v0.1.2.2.1.1 v0.1.2.2.1.2.1 v0.1.2.2.1.2.2.1 v0.1.2.2.1.2.2.2.1 v0.1.2.2.1.2.2.2.2.1 v0.1.2.2.1.2.2.2.2.2.1 v0.1.2.2.1.2.2.2.2.2.2) ++ ((wSt G a0.2.2.2.1 v0.2.2.1.1 v0.2.2.1.2.1 v0.2.2.1.2.2.1 v0.2.2.1.2.2.2) ++ (wWays G a0.2.2.2.2.2.2 v0.2.2.2.2.2.2.1 v0.2.2.2.2.2.2.2.1 v0.2.2.2.2.2.2.2.2))))) rfl (pi (fun r14 u15 hw => ?_))
            refine v_to (wCD G a0 v0.1 v0.2.1 v0.2.2.1 v0.2.2.2.1 v0.2.2.2.2.1 v0.2.2.2.2.2.1 v0.2.2.2.2.2.2) 146 [(0, .ref a0.1), (1, .int i0), (2, .ref a0.2.1.2.1.1), (3, .ref a0.2.1.2.2.2.1)] _ [.int r14] rfl rfl rfl rfl ?_
            refine v_callS (pc2 := 149) (As := [.int r14]) (rest := []) S (c_J6_bitCount_0f7a4 l G r14 _ hw) mf_J6_bitCount_0f7a4 u_402 u_312 rfl rfl ⟨rfl, rfl⟩ ⟨Nat.le_of_ble_eq_true rfl, Nat.le_of_ble_eq_true rfl⟩ ⟨Nat.le_of_ble_eq_true rfl, Nat.le_of_ble_eq_true rfl⟩ (Nat.le_of_ble_eq_true rfl) dX8_count_146 (frM [] [] _) rfl (pi (fun r16 u17 hw => ?_))
            refine v_to (wCD G a0 v0.1 v0.2.1 v0.2.2.1 v0.2.2.2.1 v0.2.2.2.2.1 v0.2.2.2.2.2.1 v0.2.2.2.2.2.2) 149 [(0, .ref a0.1), (1, .int i0), (2, .ref a0.2.1.2.1.1), (3, .ref a0.2.1.2.2.2.1)] _ [.int r16] rfl rfl rfl rfl ?_
            exact v_iret S ⟨r16, (), rfl, rfl, hw⟩ dX8_count_149
          · have hw := hw.2
            by_cases c18 : i0 = (5 : Int32)
            · have hw := hw.1 c18
              refine v_tableIn (off := 133) (tgt := 150) S dX8_count_17 (by rw [c18]; decide) (by rw [c18]; decide) (by rw [c18]; rfl) (by decide) ?_
              refine v_aload_n (pc2 := 151) S 2 dX8_count_150 rfl rfl rfl ?_
              refine v_aload_n (pc2 := 152) S 0 dX8_count_151 rfl rfl rfl ?_
              refine v_get (v := .ref a0.2.1.1) (pc2 := 155) S gf_X8_12 0 rfl rfl dX8_count_152 rfl ?_
              refine v_getN (v := .int v0.1.2.2.2) (pc2 := 158) S gf_X8_167 62 rfl rfl dX8_count_155 rfl ?_
              refine v_callV (pc2 := 161) (As := [.int v0.1.2.2.2]) (rest := []) S (c_X3_pairsOfHalls l G a0.2.1.2.1 v0.1.1 v0.1.2.2.2 _ hw) mf_X3_pairsOfHalls u_412 u_413 u_414 0 3 rfl rfl rfl rfl ⟨rfl, rfl⟩ ⟨Nat.le_of_ble_eq_true rfl, Nat.le_of_ble_eq_true rfl⟩ ⟨Nat.le_of_ble_eq_true rfl, Nat.le_of_ble_eq_true rfl⟩ (Nat.le_of_ble_eq_true rfl) dX8_count_158 (frM (([(a0.1, .inr (8, [.ref a0.2.1.1, .ref a0.2.2.1.1, .ref a0.2.2.2.1.1, .int v0.2.2.2.1, .ref a0.2.2.2.2.1.1, .ref a0.2.2.2.2.2.1, .ref a0.2.2.2.2.2.2.1]))] : va_W) ++ ((wPad G a0.2.2.2.2.1 v0.2.2.2.2.1.1 v0.2.2.2.2.1.2) ++ ((wStop G a0.2.2.2.2.2.1 v0.2.2.2.2.2.1.1 v0.2.2.2.2.2.1.2.1 v0.2.2.2.2.2.1.2.2) ++ ((wHist G a0.2.2.1 v0.2.1.1 v0.2.1.2.1 v0.2.1.2.2) ++ (([(a0.2.1.1, .inr (5, [.ref a0.2.1.2.1.1, .ref a0.2.1.2.2.1.1, .ref a0.2.1.2.2.2.1, .int v0.1.2.2.2]))] : va_W)))))) (wLoom G a0.2.1.2.1 v0.1.1.1 v0.1.1.2.1 v0.1.1.2.2.1 v0.1.1.2.2.2.1 v0.1.1.2.2.2.2.1 v0.1.1.2.2.2.2.2) ((wGu G a0.2.1.2.2.1 v0.1.2.1.1 v0.1.2.1.2.1 v0.1.2.1.2.2) ++ ((wAc G a0.2.1.2.2.2 v0.1.2.2.1.1 v0.1.2.2.1.2.1 v0.1.2.2.1.2.2.1 v0.1.2.2.1.2.2.2.1 v0.1.2.2.1.2.2.2.2.1 v0.1.2.2.1.2.2.2.2.2.1 v0.1.2.2.1.2.2.2.2.2.2) ++ ((wSt G a0.2.2.2.1 v0.2.2.1.1 v0.2.2.1.2.1 v0.2.2.1.2.2.1 v0.2.2.1.2.2.2) ++ (wWays G a0.2.2.2.2.2.2 v0.2.2.2.2.2.2.1 v0.2.2.2.2.2.2.2.1 v0.2.2.2.2.2.2.2.2))))) rfl (pi (fun r19 u20 hw => ?_))
              refine v_to (wCD G a0 v0.1 v0.2.1 v0.2.2.1 v0.2.2.2.1 v0.2.2.2.2.1 v0.2.2.2.2.2.1 v0.2.2.2.2.2.2) 161 [(0, .ref a0.1), (1, .int i0), (2, .ref a0.2.1.2.1.1), (3, .ref a0.2.1.2.2.2.1)] _ [.int r19] rfl rfl rfl rfl ?_
              exact v_iret S ⟨r19, (), rfl, rfl, hw⟩ dX8_count_161
            · have hw := hw.2
              by_cases c21 : i0 = (6 : Int32)
              · have hw := hw.1 c21
                refine v_tableIn (off := 145) (tgt := 162) S dX8_count_17 (by rw [c21]; decide) (by rw [c21]; decide) (by rw [c21]; rfl) (by decide) ?_
                refine v_aload_n (pc2 := 163) S 2 dX8_count_162 rfl rfl rfl ?_
                refine v_callV (pc2 := 166) (As := []) (rest := []) S (c_X3_pairsOfDoors l G a0.2.1.2.1 v0.1.1 _ hw) mf_X3_pairsOfDoors u_420 u_421 u_422 0 3 rfl rfl rfl rfl ⟨rfl, rfl⟩ ⟨Nat.le_of_ble_eq_true rfl, Nat.le_of_ble_eq_true rfl⟩ ⟨Nat.le_of_ble_eq_true rfl, Nat.le_of_ble_eq_true rfl⟩ (Nat.le_of_ble_eq_true rfl) dX8_count_163 (frM (([(a0.1, .inr (8, [.ref a0.2.1.1, .ref a0.2.2.1.1, .ref a0.2.2.2.1.1, .int v0.2.2.2.1, .ref a0.2.2.2.2.1.1, .ref a0.2.2.2.2.2.1, .ref a0.2.2.2.2.2.2.1]))] : va_W) ++ ((wPad G a0.2.2.2.2.1 v0.2.2.2.2.1.1 v0.2.2.2.2.1.2) ++ ((wStop G a0.2.2.2.2.2.1 v0.2.2.2.2.2.1.1 v0.2.2.2.2.2.1.2.1 v0.2.2.2.2.2.1.2.2) ++ ((wHist G a0.2.2.1 v0.2.1.1 v0.2.1.2.1 v0.2.1.2.2) ++ (([(a0.2.1.1, .inr (5, [.ref a0.2.1.2.1.1, .ref a0.2.1.2.2.1.1, .ref a0.2.1.2.2.2.1, .int v0.1.2.2.2]))] : va_W)))))) (wLoom G a0.2.1.2.1 v0.1.1.1 v0.1.1.2.1 v0.1.1.2.2.1 v0.1.1.2.2.2.1 v0.1.1.2.2.2.2.1 v0.1.1.2.2.2.2.2) ((wGu G a0.2.1.2.2.1 v0.1.2.1.1 v0.1.2.1.2.1 v0.1.2.1.2.2) ++ ((wAc G a0.2.1.2.2.2 v0.1.2.2.1.1 v0.1.2.2.1.2.1 v0.1.2.2.1.2.2.1 v0.1.2.2.1.2.2.2.1 v0.1.2.2.1.2.2.2.2.1 v0.1.2.2.1.2.2.2.2.2.1 v0.1.2.2.1.2.2.2.2.2.2) ++ ((wSt G a0.2.2.2.1 v0.2.2.1.1 v0.2.2.1.2.1 v0.2.2.1.2.2.1 v0.2.2.1.2.2.2) ++ (wWays G a0.2.2.2.2.2.2 v0.2.2.2.2.2.2.1 v0.2.2.2.2.2.2.2.1 v0.2.2.2.2.2.2.2.2))))) rfl (pi (fun r22 u23 hw => ?_))
                refine v_to (wCD G a0 v0.1 v0.2.1 v0.2.2.1 v0.2.2.2.1 v0.2.2.2.2.1 v0.2.2.2.2.2.1 v0.2.2.2.2.2.2) 166 [(0, .ref a0.1), (1, .int i0), (2, .ref a0.2.1.2.1.1), (3, .ref a0.2.1.2.2.2.1)] _ [.int r22] rfl rfl rfl rfl ?_
                exact v_iret S ⟨r22, (), rfl, rfl, hw⟩ dX8_count_166
              · have hw := hw.2
                by_cases c24 : i0 = (7 : Int32)
                · have hw := hw.1 c24
                  refine v_tableIn (off := 150) (tgt := 167) S dX8_count_17 (by rw [c24]; decide) (by rw [c24]; decide) (by rw [c24]; rfl) (by decide) ?_
                  refine v_aload_n (pc2 := 168) S 3 dX8_count_167 rfl rfl rfl ?_
                  refine v_getN (v := .int v0.1.2.2.1.2.2.1) (pc2 := 171) S gf_X8_250 73 rfl rfl dX8_count_168 rfl ?_
                  exact v_iret S ⟨v0.1.2.2.1.2.2.1, (), rfl, rfl, hw⟩ dX8_count_171
                · have hw := hw.2
                  by_cases c25 : i0 = (8 : Int32)
                  · have hw := hw.1 c25
                    refine v_tableIn (off := 155) (tgt := 172) S dX8_count_17 (by rw [c25]; decide) (by rw [c25]; decide) (by rw [c25]; rfl) (by decide) ?_
                    refine v_aload_n (pc2 := 173) S 3 dX8_count_172 rfl rfl rfl ?_
                    refine v_getN (v := .int v0.1.2.2.1.2.2.2.1) (pc2 := 176) S gf_X8_253 73 rfl rfl dX8_count_173 rfl ?_
                    exact v_iret S ⟨v0.1.2.2.1.2.2.2.1, (), rfl, rfl, hw⟩ dX8_count_176
                  · have hw := hw.2
                    by_cases c26 : i0 = (9 : Int32)
                    · have hw := hw.1 c26
                      refine v_tableIn (off := 160) (tgt := 177) S dX8_count_17 (by rw [c26]; decide) (by rw [c26]; decide) (by rw [c26]; rfl) (by decide) ?_
                      refine v_aload_n (pc2 := 178) S 3 dX8_count_177 rfl rfl rfl ?_
                      refine v_getN (v := .int v0.1.2.2.1.2.2.2.2.1) (pc2 := 181) S gf_X8_256 73 rfl rfl dX8_count_178 rfl ?_
                      exact v_iret S ⟨v0.1.2.2.1.2.2.2.2.1, (), rfl, rfl, hw⟩ dX8_count_181
                    · have hw := hw.2
                      by_cases c27 : i0 = (10 : Int32)
                      · have hw := hw.1 c27
                        refine v_tableIn (off := 165) (tgt := 182) S dX8_count_17 (by rw [c27]; decide) (by rw [c27]; decide) (by rw [c27]; rfl) (by decide) ?_
                        refine v_aload_n (pc2 := 183) S 3 dX8_count_182 rfl rfl rfl ?_
                        refine v_getN (v := .int v0.1.2.2.1.2.2.2.2.2.1) (pc2 := 186) S gf_X8_259 73 rfl rfl dX8_count_183 rfl ?_
                        exact v_iret S ⟨v0.1.2.2.1.2.2.2.2.2.1, (), rfl, rfl, hw⟩ dX8_count_186
                      · have hw := hw.2
                        by_cases c28 : i0 = (11 : Int32)
                        · have hw := hw.1 c28
                          refine v_tableIn (off := 170) (tgt := 187) S dX8_count_17 (by rw [c28]; decide) (by rw [c28]; decide) (by rw [c28]; rfl) (by decide) ?_
                          refine v_aload_n (pc2 := 188) S 3 dX8_count_187 rfl rfl rfl ?_
                          refine v_getN (v := .int v0.1.2.2.1.2.2.2.2.2.2) (pc2 := 191) S gf_X8_262 73 rfl rfl dX8_count_188 rfl ?_
                          exact v_iret S ⟨v0.1.2.2.1.2.2.2.2.2.2, (), rfl, rfl, hw⟩ dX8_count_191
                        · have hw := hw.2
                          by_cases c29 : i0 = (12 : Int32)
                          · have hw := hw.1 c29
                            refine v_tableIn (off := 175) (tgt := 192) S dX8_count_17 (by rw [c29]; decide) (by rw [c29]; decide) (by rw [c29]; rfl) (by decide) ?_
                            refine v_aload_n (pc2 := 193) S 2 dX8_count_192 rfl rfl rfl ?_
                            refine v_getN (v := .int v0.1.1.2.2.2.2.2) (pc2 := 196) S gf_X8_112 63 rfl rfl dX8_count_193 rfl ?_
                            exact v_iret S ⟨v0.1.1.2.2.2.2.2, (), rfl, rfl, hw⟩ dX8_count_196
                          · have hw := hw.2
                            by_cases c30 : i0 = (13 : Int32)
                            · have hw := hw.1 c30
                              refine v_tableIn (off := 180) (tgt := 197) S dX8_count_17 (by rw [c30]; decide) (by rw [c30]; decide) (by rw [c30]; rfl) (by decide) ?_
                              refine v_aload_n (pc2 := 198) S 0 dX8_count_197 rfl rfl rfl ?_
                              refine v_get (v := .ref a0.2.2.2.2.1.1) (pc2 := 201) S gf_X8_33 0 rfl rfl dX8_count_198 rfl ?_
                              refine v_getN (v := .int v0.2.2.2.2.1.2) (pc2 := 204) S gf_X8_126 1 rfl rfl dX8_count_201 rfl ?_
                              exact v_iret S ⟨v0.2.2.2.2.1.2, (), rfl, rfl, hw⟩ dX8_count_204
                            · have hw := hw.2
                              by_cases c31 : i0 = (14 : Int32)
                              · have hw := hw.1 c31
                                refine v_tableIn (off := 188) (tgt := 205) S dX8_count_17 (by rw [c31]; decide) (by rw [c31]; decide) (by rw [c31]; rfl) (by decide) ?_
                                refine v_aload_n (pc2 := 206) S 0 dX8_count_205 rfl rfl rfl ?_
                                refine v_get (v := .ref a0.2.2.1.1) (pc2 := 209) S gf_X8_19 0 rfl rfl dX8_count_206 rfl ?_
                                refine v_getN (v := .int v0.2.1.2.2) (pc2 := 212) S gf_X8_265 4 rfl rfl dX8_count_209 rfl ?_
                                exact v_iret S ⟨v0.2.1.2.2, (), rfl, rfl, hw⟩ dX8_count_212
                              · have hw := hw.2
                                have hw := hw c1 c2 c5 c8 c13 c18 c21 c24 c25 c26 c27 c28 c29 c30 c31
                                refine v_tableOut (tgt := 213) S dX8_count_17 (sw_out14 c1 c2 c5 c8 c13 c18 c21 c24 c25 c26 c27 c28 c29 c30 c31) (by decide) ?_
                                refine v_iconst (v := -1) (pc2 := 214) S dX8_count_213 (by decide) rfl ?_
                                exact v_iret S ⟨(-1 : Int32), (), rfl, rfl, hw⟩ dX8_count_214
set_option maxHeartbeats 4000000 in
set_option maxRecDepth 100000 in
theorem c_X8_tightness (l : Launch) (G : GG) (a0 : CDA) (v0 : CDV) (Q : UInt64 → Prop) (hw : wp_X8_tightness v0 Q) : Con l G yX8_tightness cX8_tightness 2 (some .double) { frames := 2, cells := 0, slots := 0, locals := 44 } [.ref a0.1] (wCD G a0 v0.1 v0.2.1 v0.2.2.1 v0.2.2.2.1 v0.2.2.2.2.1 v0.2.2.2.2.2.1 v0.2.2.2.2.2.2) (PD (fun _ : Unit => wCD G a0 v0.1 v0.2.1 v0.2.2.1 v0.2.2.2.1 v0.2.2.2.2.1 v0.2.2.2.2.2.1 v0.2.2.2.2.2.2) (fun r _ => Q r)) 0 0 := by
  refine con_of RX8 rfl (by decide) [(0, .ref a0.1)] rfl (Nat.le_of_ble_eq_true rfl) ?_
  intro p e s m args below meth c S hname
  refine v_aload_n (pc2 := 1) S 0 dX8_tightness_0 rfl rfl rfl ?_
  refine v_get (v := .ref a0.2.1.1) (pc2 := 4) S gf_X8_12 0 rfl rfl dX8_tightness_1 rfl ?_
  refine v_getN (v := .ref a0.2.1.2.1.1) (pc2 := 7) S gf_X8_66 62 rfl rfl dX8_tightness_4 rfl ?_
  refine v_sipush (v := 1023) (pc2 := 10) S dX8_tightness_7 (by decide) rfl ?_
  refine v_callV (pc2 := 13) (As := [.int (1023 : Int32)]) (rest := []) S (c_X3_cordsOf l G a0.2.1.2.1 v0.1.1 (1023 : Int32) _ hw) mf_X3_cordsOf u_403 u_404 u_405 0 3 rfl rfl rfl rfl ⟨rfl, rfl⟩ ⟨Nat.le_of_ble_eq_true rfl, Nat.le_of_ble_eq_true rfl⟩ ⟨Nat.le_of_ble_eq_true rfl, Nat.le_of_ble_eq_true rfl⟩ (Nat.le_of_ble_eq_true rfl) dX8_tightness_10 (frM (([(a0.1, .inr (8, [.ref a0.2.1.1, .ref a0.2.2.1.1, .ref a0.2.2.2.1.1, .int v0.2.2.2.1, .ref a0.2.2.2.2.1.1, .ref a0.2.2.2.2.2.1, .ref a0.2.2.2.2.2.2.1]))] : va_W) ++ ((wPad G a0.2.2.2.2.1 v0.2.2.2.2.1.1 v0.2.2.2.2.1.2) ++ ((wStop G a0.2.2.2.2.2.1 v0.2.2.2.2.2.1.1 v0.2.2.2.2.2.1.2.1 v0.2.2.2.2.2.1.2.2) ++ ((wHist G a0.2.2.1 v0.2.1.1 v0.2.1.2.1 v0.2.1.2.2) ++ (([(a0.2.1.1, .inr (5, [.ref a0.2.1.2.1.1, .ref a0.2.1.2.2.1.1, .ref a0.2.1.2.2.2.1, .int v0.1.2.2.2]))] : va_W)))))) (wLoom G a0.2.1.2.1 v0.1.1.1 v0.1.1.2.1 v0.1.1.2.2.1 v0.1.1.2.2.2.1 v0.1.1.2.2.2.2.1 v0.1.1.2.2.2.2.2) ((wGu G a0.2.1.2.2.1 v0.1.2.1.1 v0.1.2.1.2.1 v0.1.2.1.2.2) ++ ((wAc G a0.2.1.2.2.2 v0.1.2.2.1.1 v0.1.2.2.1.2.1 v0.1.2.2.1.2.2.1 v0.1.2.2.1.2.2.2.1 v0.1.2.2.1.2.2.2.2.1 v0.1.2.2.1.2.2.2.2.2.1 v0.1.2.2.1.2.2.2.2.2.2) ++ ((wSt G a0.2.2.2.1 v0.2.2.1.1 v0.2.2.1.2.1 v0.2.2.1.2.2.1 v0.2.2.1.2.2.2) ++ (wWays G a0.2.2.2.2.2.2 v0.2.2.2.2.2.2.1 v0.2.2.2.2.2.2.2.1 v0.2.2.2.2.2.2.2.2))))) rfl (pi (fun r1 u2 hw => ?_))
  refine v_to (wCD G a0 v0.1 v0.2.1 v0.2.2.1 v0.2.2.2.1 v0.2.2.2.2.1 v0.2.2.2.2.2.1 v0.2.2.2.2.2.2) 13 [(0, .ref a0.1)] _ [.int r1] rfl rfl rfl rfl ?_
  refine v_istore_n (lv2 := [(0, .ref a0.1), (1, .int r1)]) (pc2 := 14) S dX8_tightness_13 rfl (by decide) [1, 0] rfl rfl ?_
  refine v_iload_n (pc2 := 15) S 1 dX8_tightness_14 rfl rfl rfl ?_
  refine v_if_ne (pc2 := 18) (tgt := 22) S dX8_tightness_15 (by decide) rfl (fun c3 => ?_) (fun c3 => ?_)
  · have hw := hw.1 c3
    refine v_aload_n (pc2 := 23) S 0 dX8_tightness_22 rfl rfl rfl ?_
    refine v_get (v := .ref a0.2.1.1) (pc2 := 26) S gf_X8_12 0 rfl rfl dX8_tightness_23 rfl ?_
    refine v_getN (v := .ref a0.2.1.2.1.1) (pc2 := 29) S gf_X8_66 62 rfl rfl dX8_tightness_26 rfl ?_
    refine v_aload_n (pc2 := 30) S 0 dX8_tightness_29 rfl rfl rfl ?_
    refine v_get (v := .ref a0.2.1.1) (pc2 := 33) S gf_X8_12 0 rfl rfl dX8_tightness_30 rfl ?_
    refine v_getN (v := .int v0.1.2.2.2) (pc2 := 36) S gf_X8_167 62 rfl rfl dX8_tightness_33 rfl ?_
    refine v_callV (pc2 := 39) (As := [.int v0.1.2.2.2]) (rest := []) S (c_X3_cordsOf l G a0.2.1.2.1 v0.1.1 v0.1.2.2.2 _ hw) mf_X3_cordsOf u_403 u_404 u_405 0 3 rfl rfl rfl rfl ⟨rfl, rfl⟩ ⟨Nat.le_of_ble_eq_true rfl, Nat.le_of_ble_eq_true rfl⟩ ⟨Nat.le_of_ble_eq_true rfl, Nat.le_of_ble_eq_true rfl⟩ (Nat.le_of_ble_eq_true rfl) dX8_tightness_36 (frM (([(a0.1, .inr (8, [.ref a0.2.1.1, .ref a0.2.2.1.1, .ref a0.2.2.2.1.1, .int v0.2.2.2.1, .ref a0.2.2.2.2.1.1, .ref a0.2.2.2.2.2.1, .ref a0.2.2.2.2.2.2.1]))] : va_W) ++ ((wPad G a0.2.2.2.2.1 v0.2.2.2.2.1.1 v0.2.2.2.2.1.2) ++ ((wStop G a0.2.2.2.2.2.1 v0.2.2.2.2.2.1.1 v0.2.2.2.2.2.1.2.1 v0.2.2.2.2.2.1.2.2) ++ ((wHist G a0.2.2.1 v0.2.1.1 v0.2.1.2.1 v0.2.1.2.2) ++ (([(a0.2.1.1, .inr (5, [.ref a0.2.1.2.1.1, .ref a0.2.1.2.2.1.1, .ref a0.2.1.2.2.2.1, .int v0.1.2.2.2]))] : va_W)))))) (wLoom G a0.2.1.2.1 v0.1.1.1 v0.1.1.2.1 v0.1.1.2.2.1 v0.1.1.2.2.2.1 v0.1.1.2.2.2.2.1 v0.1.1.2.2.2.2.2) ((wGu G a0.2.1.2.2.1 v0.1.2.1.1 v0.1.2.1.2.1 v0.1.2.1.2.2) ++ ((wAc G a0.2.1.2.2.2 v0.1.2.2.1.1 v0.1.2.2.1.2.1 v0.1.2.2.1.2.2.1 v0.1.2.2.1.2.2.2.1 v0.1.2.2.1.2.2.2.2.1 v0.1.2.2.1.2.2.2.2.2.1 v0.1.2.2.1.2.2.2.2.2.2) ++ ((wSt G a0.2.2.2.1 v0.2.2.1.1 v0.2.2.1.2.1 v0.2.2.1.2.2.1 v0.2.2.1.2.2.2) ++ (wWays G a0.2.2.2.2.2.2 v0.2.2.2.2.2.2.1 v0.2.2.2.2.2.2.2.1 v0.2.2.2.2.2.2.2.2))))) rfl (pi (fun r4 u5 hw => ?_))
    refine v_to (wCD G a0 v0.1 v0.2.1 v0.2.2.1 v0.2.2.2.1 v0.2.2.2.2.1 v0.2.2.2.2.2.1 v0.2.2.2.2.2.2) 39 [(0, .ref a0.1), (1, .int r1)] _ [.int r4] rfl rfl rfl rfl ?_
    refine v_i2d (pc2 := 40) S dX8_tightness_39 rfl ?_
    refine v_iload_n (pc2 := 41) S 1 dX8_tightness_40 rfl rfl rfl ?_
    refine v_i2d (pc2 := 42) S dX8_tightness_41 rfl ?_
    obtain ⟨h6, hw⟩ := hw
    refine v_ddiv (pc2 := 43) S h6 dX8_tightness_42 rfl ?_
    exact v_dret S ⟨FP.ddiv (FP.i2d r4) (FP.i2d r1), (), rfl, rfl, hw⟩ dX8_tightness_43
  · have hw := hw.2 c3
    refine v_dconst0 (pc2 := 19) S dX8_tightness_18 rfl ?_
    refine v_goto (tgt := 43) S dX8_tightness_19 (by decide) ?_
    exact v_dret S ⟨FP.dconst0, (), rfl, rfl, hw⟩ dX8_tightness_43
set_option maxHeartbeats 4000000 in
set_option maxRecDepth 100000 in
theorem c_X8_ifOpened (l : Launch) (G : GG) (a0 : CDA) (v0 : CDV) (i0 : Int32) (i1 : Int32) (Q : Int32 → Prop) (hw : wp_X8_ifOpened v0 i0 i1 Q) : Con l G yX8_ifOpened cX8_ifOpened 7 (some .int) { frames := 3, cells := 0, slots := 0, locals := 69 } [.ref a0.1, .int i0, .int i1] (wCD G a0 v0.1 v0.2.1 v0.2.2.1 v0.2.2.2.1 v0.2.2.2.2.1 v0.2.2.2.2.2.1 v0.2.2.2.2.2.2) (PI (fun _ : Unit => wCD G a0 v0.1 v0.2.1 v0.2.2.1 v0.2.2.2.1 v0.2.2.2.2.1 v0.2.2.2.2.2.1 v0.2.2.2.2.2.2) (fun r _ => Q r)) 0 0 := by
  refine con_of RX8 rfl (by decide) [(0, .ref a0.1), (1, .int i0), (2, .int i1)] rfl (Nat.le_of_ble_eq_true rfl) ?_
  intro p e s m args below meth c S hname
  have B80 : ∀ (x2 : Int32) (x3 : Int32) (x5 : Int32) (t0 : Int32), wp_X8_ifOpened_B80 v0 x2 x3 x5 t0 Q → V p l e { frames := 3, cells := 0, slots := 0, locals := 69 } s m args below meth c G (va_A (wCD G a0 v0.1 v0.2.1 v0.2.2.1 v0.2.2.2.1 v0.2.2.2.2.1 v0.2.2.2.2.2.1 v0.2.2.2.2.2.2) s.heap.size) 7 0 0 (MQ below (EQ G (wCD G a0 v0.1 v0.2.1 v0.2.2.1 v0.2.2.2.1 v0.2.2.2.2.1 v0.2.2.2.2.2.1 v0.2.2.2.2.2.2) s.heap.size (PI (fun _ : Unit => wCD G a0 v0.1 v0.2.1 v0.2.2.1 v0.2.2.2.1 v0.2.2.2.2.1 v0.2.2.2.2.2.1 v0.2.2.2.2.2.2) (fun r _ => Q r))) args s 0 0 (va_A (wCD G a0 v0.1 v0.2.1 v0.2.2.1 v0.2.2.2.1 v0.2.2.2.2.1 v0.2.2.2.2.2.1 v0.2.2.2.2.2.2) s.heap.size)) (wCD G a0 v0.1 v0.2.1 v0.2.2.1 v0.2.2.2.1 v0.2.2.2.2.1 v0.2.2.2.2.2.1 v0.2.2.2.2.2.2) 80 [(2, .int x2), (3, .int x3), (5, .int x5)] [.int t0] := by
    intro x2 x3 x5 t0 hw
    refine v_istore (lv2 := [(2, .int x2), (3, .int x3), (5, .int x5), (6, .int t0)]) (pc2 := 82) S dX8_ifOpened_80 (by decide) [1, 2, 3, 0] rfl rfl ?_
    refine v_iload_n (pc2 := 83) S 0 dX8_ifOpened_82 rfl rfl rfl ?_
    by_cases c14 : x2 = (0 : Int32)
    · have hw := hw.1 c14
      refine v_tableIn (off := 25) (tgt := 108) S dX8_ifOpened_83 (by rw [c14]; decide) (by rw [c14]; decide) (by rw [c14]; rfl) (by decide) ?_
      refine v_iload (pc2 := 110) S 3 dX8_ifOpened_108 rfl rfl ?_
      exact v_iret S ⟨t0, (), rfl, rfl, hw⟩ dX8_ifOpened_110
    · have hw := hw.2
      by_cases c15 : x2 = (1 : Int32)
      · have hw := hw.1 c15
        refine v_tableIn (off := 28) (tgt := 111) S dX8_ifOpened_83 (by rw [c15]; decide) (by rw [c15]; decide) (by rw [c15]; rfl) (by decide) ?_
        refine v_iload_n (pc2 := 112) S 1 dX8_ifOpened_111 rfl rfl rfl ?_
        refine v_iload (pc2 := 114) S 2 dX8_ifOpened_112 rfl rfl ?_
        refine v_iconst (v := -1) (pc2 := 115) S dX8_ifOpened_114 (by decide) rfl ?_
        refine v_ixor (pc2 := 116) S dX8_ifOpened_115 rfl ?_
        refine v_iand (pc2 := 117) S dX8_ifOpened_116 rfl ?_
        refine v_callS (pc2 := 120) (As := [.int (x3 &&& (x5 ^^^ (-1 : Int32)))]) (rest := []) S (c_J6_bitCount_0f7a4 l G (x3 &&& (x5 ^^^ (-1 : Int32))) _ hw) mf_J6_bitCount_0f7a4 u_402 u_312 rfl rfl ⟨rfl, rfl⟩ ⟨Nat.le_of_ble_eq_true rfl, Nat.le_of_ble_eq_true rfl⟩ ⟨Nat.le_of_ble_eq_true rfl, Nat.le_of_ble_eq_true rfl⟩ (Nat.le_of_ble_eq_true rfl) dX8_ifOpened_117 (frM [] [] _) rfl (pi (fun r16 u17 hw => ?_))
        refine v_to (wCD G a0 v0.1 v0.2.1 v0.2.2.1 v0.2.2.2.1 v0.2.2.2.2.1 v0.2.2.2.2.2.1 v0.2.2.2.2.2.2) 120 [(2, .int x2), (3, .int x3), (5, .int x5), (6, .int t0)] _ [.int r16] rfl rfl rfl rfl ?_
        exact v_iret S ⟨r16, (), rfl, rfl, hw⟩ dX8_ifOpened_120
      · have hw := hw.2
        by_cases c18 : x2 = (2 : Int32)
        · have hw := hw.1 c18
          refine v_tableIn (off := 38) (tgt := 121) S dX8_ifOpened_83 (by rw [c18]; decide) (by rw [c18]; decide) (by rw [c18]; rfl) (by decide) ?_
          refine v_iload (pc2 := 123) S 2 dX8_ifOpened_121 rfl rfl ?_
          refine v_iload (pc2 := 125) S 3 dX8_ifOpened_123 rfl rfl ?_
          refine v_iconst (v := -1) (pc2 := 126) S dX8_ifOpened_125 (by decide) rfl ?_
          refine v_ixor (pc2 := 127) S dX8_ifOpened_126 rfl ?_
          refine v_iand (pc2 := 128) S dX8_ifOpened_127 rfl ?_
          refine v_callS (pc2 := 131) (As := [.int (x5 &&& (t0 ^^^ (-1 : Int32)))]) (rest := []) S (c_J6_bitCount_0f7a4 l G (x5 &&& (t0 ^^^ (-1 : Int32))) _ hw) mf_J6_bitCount_0f7a4 u_402 u_312 rfl rfl ⟨rfl, rfl⟩ ⟨Nat.le_of_ble_eq_true rfl, Nat.le_of_ble_eq_true rfl⟩ ⟨Nat.le_of_ble_eq_true rfl, Nat.le_of_ble_eq_true rfl⟩ (Nat.le_of_ble_eq_true rfl) dX8_ifOpened_128 (frM [] [] _) rfl (pi (fun r19 u20 hw => ?_))
          refine v_to (wCD G a0 v0.1 v0.2.1 v0.2.2.1 v0.2.2.2.1 v0.2.2.2.2.1 v0.2.2.2.2.2.1 v0.2.2.2.2.2.2) 131 [(2, .int x2), (3, .int x3), (5, .int x5), (6, .int t0)] _ [.int r19] rfl rfl rfl rfl ?_
          exact v_iret S ⟨r19, (), rfl, rfl, hw⟩ dX8_ifOpened_131
        · have hw := hw.2
          have hw := hw c14 c15 c18
          refine v_tableOut (tgt := 132) S dX8_ifOpened_83 (sw_out2 c14 c15 c18) (by decide) ?_
          refine v_iconst (v := -1) (pc2 := 133) S dX8_ifOpened_132 (by decide) rfl ?_
          exact v_iret S ⟨(-1 : Int32), (), rfl, rfl, hw⟩ dX8_ifOpened_133
  have B56 : ∀ (x1 : Int32) (x2 : Int32) (x3 : Int32) (x4 : Int32) (t0 : Int32), wp_X8_ifOpened_B56 v0 x1 x2 x3 x4 t0 Q → V p l e { frames := 3, cells := 0, slots := 0, locals := 69 } s m args below meth c G (va_A (wCD G a0 v0.1 v0.2.1 v0.2.2.1 v0.2.2.2.1 v0.2.2.2.2.1 v0.2.2.2.2.2.1 v0.2.2.2.2.2.2) s.heap.size) 7 0 0 (MQ below (EQ G (wCD G a0 v0.1 v0.2.1 v0.2.2.1 v0.2.2.2.1 v0.2.2.2.2.1 v0.2.2.2.2.2.1 v0.2.2.2.2.2.2) s.heap.size (PI (fun _ : Unit => wCD G a0 v0.1 v0.2.1 v0.2.2.1 v0.2.2.2.1 v0.2.2.2.2.1 v0.2.2.2.2.2.1 v0.2.2.2.2.2.2) (fun r _ => Q r))) args s 0 0 (va_A (wCD G a0 v0.1 v0.2.1 v0.2.2.1 v0.2.2.2.1 v0.2.2.2.2.1 v0.2.2.2.2.2.1 v0.2.2.2.2.2.2) s.heap.size)) (wCD G a0 v0.1 v0.2.1 v0.2.2.1 v0.2.2.2.1 v0.2.2.2.2.1 v0.2.2.2.2.2.1 v0.2.2.2.2.2.2) 56 [(0, .ref a0.1), (1, .int x1), (2, .int x2), (3, .int x3), (4, .int x4)] [.int t0] := by
    intro x1 x2 x3 x4 t0 hw
    refine v_istore (lv2 := [(0, .ref a0.1), (1, .int x1), (2, .int x2), (3, .int x3), (4, .int x4), (5, .int t0)]) (pc2 := 58) S dX8_ifOpened_56 (by decide) [1, 2, 3, 4, 5, 0] rfl rfl ?_
    refine v_iload (pc2 := 60) S 4 dX8_ifOpened_58 rfl rfl ?_
    refine v_if_eq (pc2 := 63) (tgt := 67) S dX8_ifOpened_60 (by decide) rfl (fun c11 => ?_) (fun c11 => ?_)
    · have hw := hw.1 c11
      refine v_aload_n (pc2 := 68) S 0 dX8_ifOpened_67 rfl rfl rfl ?_
      refine v_get (v := .ref a0.2.1.1) (pc2 := 71) S gf_X8_12 0 rfl rfl dX8_ifOpened_68 rfl ?_
      refine v_getN (v := .ref a0.2.1.2.1.1) (pc2 := 74) S gf_X8_66 62 rfl rfl dX8_ifOpened_71 rfl ?_
      refine v_iload (pc2 := 76) S 5 dX8_ifOpened_74 rfl rfl ?_
      refine v_iload_n (pc2 := 77) S 1 dX8_ifOpened_76 rfl rfl rfl ?_
      refine v_callV (pc2 := 80) (As := [.int t0, .int x1]) (rest := []) S (c_X3_afterDrafts l G a0.2.1.2.1 v0.1.1 t0 x1 _ hw) mf_X3_afterDrafts u_664 u_367 u_368 0 3 rfl rfl rfl rfl ⟨rfl, rfl⟩ ⟨Nat.le_of_ble_eq_true rfl, Nat.le_of_ble_eq_true rfl⟩ ⟨Nat.le_of_ble_eq_true rfl, Nat.le_of_ble_eq_true rfl⟩ (Nat.le_of_ble_eq_true rfl) dX8_ifOpened_77 (frM (([(a0.1, .inr (8, [.ref a0.2.1.1, .ref a0.2.2.1.1, .ref a0.2.2.2.1.1, .int v0.2.2.2.1, .ref a0.2.2.2.2.1.1, .ref a0.2.2.2.2.2.1, .ref a0.2.2.2.2.2.2.1]))] : va_W) ++ ((wPad G a0.2.2.2.2.1 v0.2.2.2.2.1.1 v0.2.2.2.2.1.2) ++ ((wStop G a0.2.2.2.2.2.1 v0.2.2.2.2.2.1.1 v0.2.2.2.2.2.1.2.1 v0.2.2.2.2.2.1.2.2) ++ ((wHist G a0.2.2.1 v0.2.1.1 v0.2.1.2.1 v0.2.1.2.2) ++ (([(a0.2.1.1, .inr (5, [.ref a0.2.1.2.1.1, .ref a0.2.1.2.2.1.1, .ref a0.2.1.2.2.2.1, .int v0.1.2.2.2]))] : va_W)))))) (wLoom G a0.2.1.2.1 v0.1.1.1 v0.1.1.2.1 v0.1.1.2.2.1 v0.1.1.2.2.2.1 v0.1.1.2.2.2.2.1 v0.1.1.2.2.2.2.2) ((wGu G a0.2.1.2.2.1 v0.1.2.1.1 v0.1.2.1.2.1 v0.1.2.1.2.2) ++ ((wAc G a0.2.1.2.2.2 v0.1.2.2.1.1 v0.1.2.2.1.2.1 v0.1.2.2.1.2.2.1 v0.1.2.2.1.2.2.2.1 v0.1.2.2.1.2.2.2.2.1 v0.1.2.2.1.2.2.2.2.2.1 v0.1.2.2.1.2.2.2.2.2.2) ++ ((wSt G a0.2.2.2.1 v0.2.2.1.1 v0.2.2.1.2.1 v0.2.2.1.2.2.1 v0.2.2.1.2.2.2) ++ (wWays G a0.2.2.2.2.2.2 v0.2.2.2.2.2.2.1 v0.2.2.2.2.2.2.2.1 v0.2.2.2.2.2.2.2.2))))) rfl (pi (fun r12 u13 hw => ?_))
      refine v_to (wCD G a0 v0.1 v0.2.1 v0.2.2.1 v0.2.2.2.1 v0.2.2.2.2.1 v0.2.2.2.2.2.1 v0.2.2.2.2.2.2) 80 [(0, .ref a0.1), (1, .int x1), (2, .int x2), (3, .int x3), (4, .int x4), (5, .int t0)] _ [.int r12] rfl rfl rfl rfl ?_
      refine v_lv [(2, .int x2), (3, .int x3), (5, .int t0)] [2, 3, 5] rfl ?_
      exact B80 x2 x3 t0 r12 hw
    · have hw := hw.2 c11
      refine v_iload_n (pc2 := 64) S 3 dX8_ifOpened_63 rfl rfl rfl ?_
      refine v_goto (tgt := 80) S dX8_ifOpened_64 (by decide) ?_
      refine v_lv [(2, .int x2), (3, .int x3), (5, .int t0)] [2, 3, 5] rfl ?_
      exact B80 x2 x3 t0 x3 hw
  have B33 : ∀ (x1 : Int32) (x2 : Int32) (x3 : Int32) (t0 : Int32), wp_X8_ifOpened_B33 v0 x1 x2 x3 t0 Q → V p l e { frames := 3, cells := 0, slots := 0, locals := 69 } s m args below meth c G (va_A (wCD G a0 v0.1 v0.2.1 v0.2.2.1 v0.2.2.2.1 v0.2.2.2.2.1 v0.2.2.2.2.2.1 v0.2.2.2.2.2.2) s.heap.size) 7 0 0 (MQ below (EQ G (wCD G a0 v0.1 v0.2.1 v0.2.2.1 v0.2.2.2.1 v0.2.2.2.2.1 v0.2.2.2.2.2.1 v0.2.2.2.2.2.2) s.heap.size (PI (fun _ : Unit => wCD G a0 v0.1 v0.2.1 v0.2.2.1 v0.2.2.2.1 v0.2.2.2.2.1 v0.2.2.2.2.2.1 v0.2.2.2.2.2.2) (fun r _ => Q r))) args s 0 0 (va_A (wCD G a0 v0.1 v0.2.1 v0.2.2.1 v0.2.2.2.1 v0.2.2.2.2.1 v0.2.2.2.2.2.1 v0.2.2.2.2.2.2) s.heap.size)) (wCD G a0 v0.1 v0.2.1 v0.2.2.1 v0.2.2.2.1 v0.2.2.2.2.1 v0.2.2.2.2.2.1 v0.2.2.2.2.2.2) 33 [(0, .ref a0.1), (1, .int x1), (2, .int x2), (3, .int x3)] [.int t0] := by
    intro x1 x2 x3 t0 hw
    refine v_istore (lv2 := [(0, .ref a0.1), (1, .int x1), (2, .int x2), (3, .int x3), (4, .int t0)]) (pc2 := 35) S dX8_ifOpened_33 (by decide) [1, 2, 3, 4, 0] rfl rfl ?_
    refine v_iload (pc2 := 37) S 4 dX8_ifOpened_35 rfl rfl ?_
    refine v_if_eq (pc2 := 40) (tgt := 44) S dX8_ifOpened_37 (by decide) rfl (fun c8 => ?_) (fun c8 => ?_)
    · have hw := hw.1 c8
      refine v_aload_n (pc2 := 45) S 0 dX8_ifOpened_44 rfl rfl rfl ?_
      refine v_get (v := .ref a0.2.1.1) (pc2 := 48) S gf_X8_12 0 rfl rfl dX8_ifOpened_45 rfl ?_
      refine v_getN (v := .ref a0.2.1.2.1.1) (pc2 := 51) S gf_X8_66 62 rfl rfl dX8_ifOpened_48 rfl ?_
      refine v_iload_n (pc2 := 52) S 3 dX8_ifOpened_51 rfl rfl rfl ?_
      refine v_iload_n (pc2 := 53) S 1 dX8_ifOpened_52 rfl rfl rfl ?_
      refine v_callV (pc2 := 56) (As := [.int x3, .int x1]) (rest := []) S (c_X3_afterCords l G a0.2.1.2.1 v0.1.1 x3 x1 _ hw) mf_X3_afterCords u_663 u_363 u_364 0 3 rfl rfl rfl rfl ⟨rfl, rfl⟩ ⟨Nat.le_of_ble_eq_true rfl, Nat.le_of_ble_eq_true rfl⟩ ⟨Nat.le_of_ble_eq_true rfl, Nat.le_of_ble_eq_true rfl⟩ (Nat.le_of_ble_eq_true rfl) dX8_ifOpened_53 (frM (([(a0.1, .inr (8, [.ref a0.2.1.1, .ref a0.2.2.1.1, .ref a0.2.2.2.1.1, .int v0.2.2.2.1, .ref a0.2.2.2.2.1.1, .ref a0.2.2.2.2.2.1, .ref a0.2.2.2.2.2.2.1]))] : va_W) ++ ((wPad G a0.2.2.2.2.1 v0.2.2.2.2.1.1 v0.2.2.2.2.1.2) ++ ((wStop G a0.2.2.2.2.2.1 v0.2.2.2.2.2.1.1 v0.2.2.2.2.2.1.2.1 v0.2.2.2.2.2.1.2.2) ++ ((wHist G a0.2.2.1 v0.2.1.1 v0.2.1.2.1 v0.2.1.2.2) ++ (([(a0.2.1.1, .inr (5, [.ref a0.2.1.2.1.1, .ref a0.2.1.2.2.1.1, .ref a0.2.1.2.2.2.1, .int v0.1.2.2.2]))] : va_W)))))) (wLoom G a0.2.1.2.1 v0.1.1.1 v0.1.1.2.1 v0.1.1.2.2.1 v0.1.1.2.2.2.1 v0.1.1.2.2.2.2.1 v0.1.1.2.2.2.2.2) ((wGu G a0.2.1.2.2.1 v0.1.2.1.1 v0.1.2.1.2.1 v0.1.2.1.2.2) ++ ((wAc G a0.2.1.2.2.2 v0.1.2.2.1.1 v0.1.2.2.1.2.1 v0.1.2.2.1.2.2.1 v0.1.2.2.1.2.2.2.1 v0.1.2.2.1.2.2.2.2.1 v0.1.2.2.1.2.2.2.2.2.1 v0.1.2.2.1.2.2.2.2.2.2) ++ ((wSt G a0.2.2.2.1 v0.2.2.1.1 v0.2.2.1.2.1 v0.2.2.1.2.2.1 v0.2.2.1.2.2.2) ++ (wWays G a0.2.2.2.2.2.2 v0.2.2.2.2.2.2.1 v0.2.2.2.2.2.2.2.1 v0.2.2.2.2.2.2.2.2))))) rfl (pi (fun r9 u10 hw => ?_))
      refine v_to (wCD G a0 v0.1 v0.2.1 v0.2.2.1 v0.2.2.2.1 v0.2.2.2.2.1 v0.2.2.2.2.2.1 v0.2.2.2.2.2.2) 56 [(0, .ref a0.1), (1, .int x1), (2, .int x2), (3, .int x3), (4, .int t0)] _ [.int r9] rfl rfl rfl rfl ?_
      exact B56 x1 x2 x3 t0 r9 hw
    · have hw := hw.2 c8
      refine v_iload_n (pc2 := 41) S 3 dX8_ifOpened_40 rfl rfl rfl ?_
      refine v_goto (tgt := 56) S dX8_ifOpened_41 (by decide) ?_
      exact B56 x1 x2 x3 t0 x3 hw
  refine v_iload_n (pc2 := 1) S 1 dX8_ifOpened_0 rfl rfl rfl ?_
  refine v_callS (pc2 := 4) (As := [.int i0]) (rest := []) S (c_X8_isDoor l G i0 _ hw) mf_X8_isDoor u_488 u_489 rfl rfl ⟨rfl, rfl⟩ ⟨Nat.le_of_ble_eq_true rfl, Nat.le_of_ble_eq_true rfl⟩ ⟨Nat.le_of_ble_eq_true rfl, Nat.le_of_ble_eq_true rfl⟩ (Nat.le_of_ble_eq_true rfl) dX8_ifOpened_1 (frM [] [] _) rfl (pb (fun r1 u2 br1 hw => ?_))
  refine v_to (wCD G a0 v0.1 v0.2.1 v0.2.2.1 v0.2.2.2.1 v0.2.2.2.2.1 v0.2.2.2.2.2.1 v0.2.2.2.2.2.2) 4 [(0, .ref a0.1), (1, .int i0), (2, .int i1)] _ [.int r1] rfl rfl rfl rfl ?_
  refine v_if_ne (pc2 := 7) (tgt := 9) S dX8_ifOpened_4 (by decide) rfl (fun c3 => ?_) (fun c3 => ?_)
  · have hw := hw.1 c3
    refine v_aload_n (pc2 := 10) S 0 dX8_ifOpened_9 rfl rfl rfl ?_
    refine v_get (v := .ref a0.2.1.1) (pc2 := 13) S gf_X8_12 0 rfl rfl dX8_ifOpened_10 rfl ?_
    refine v_getN (v := .int v0.1.2.2.2) (pc2 := 16) S gf_X8_167 62 rfl rfl dX8_ifOpened_13 rfl ?_
    refine v_nm (fun z4 ez4 => ?_)
    have hw := hw z4 ez4
    refine v_istore_n (lv2 := [(0, .ref a0.1), (1, .int i0), (2, .int i1), (3, .int z4)]) (pc2 := 17) S dX8_ifOpened_16 rfl (by decide) [1, 2, 3, 0] rfl rfl ?_
    refine v_aload_n (pc2 := 18) S 0 dX8_ifOpened_17 rfl rfl rfl ?_
    refine v_get (v := .ref a0.2.1.1) (pc2 := 21) S gf_X8_12 0 rfl rfl dX8_ifOpened_18 rfl ?_
    refine v_iload_n (pc2 := 22) S 1 dX8_ifOpened_21 rfl rfl rfl ?_
    refine v_callV (pc2 := 25) (As := [.int i0]) (rest := []) S (c_X5_reasonNotToOpen l G a0.2.1 v0.1 i0 _ hw) mf_X5_reasonNotToOpen u_516 u_279 u_280 0 5 rfl rfl rfl rfl ⟨rfl, rfl⟩ ⟨Nat.le_of_ble_eq_true rfl, Nat.le_of_ble_eq_true rfl⟩ ⟨Nat.le_of_ble_eq_true rfl, Nat.le_of_ble_eq_true rfl⟩ (Nat.le_of_ble_eq_true rfl) dX8_ifOpened_22 (frM (([(a0.1, .inr (8, [.ref a0.2.1.1, .ref a0.2.2.1.1, .ref a0.2.2.2.1.1, .int v0.2.2.2.1, .ref a0.2.2.2.2.1.1, .ref a0.2.2.2.2.2.1, .ref a0.2.2.2.2.2.2.1]))] : va_W) ++ ((wPad G a0.2.2.2.2.1 v0.2.2.2.2.1.1 v0.2.2.2.2.1.2) ++ ((wStop G a0.2.2.2.2.2.1 v0.2.2.2.2.2.1.1 v0.2.2.2.2.2.1.2.1 v0.2.2.2.2.2.1.2.2) ++ (wHist G a0.2.2.1 v0.2.1.1 v0.2.1.2.1 v0.2.1.2.2)))) (wSt G a0.2.1 v0.1.1 v0.1.2.1 v0.1.2.2.1 v0.1.2.2.2) ((wSt G a0.2.2.2.1 v0.2.2.1.1 v0.2.2.1.2.1 v0.2.2.1.2.2.1 v0.2.2.1.2.2.2) ++ (wWays G a0.2.2.2.2.2.2 v0.2.2.2.2.2.2.1 v0.2.2.2.2.2.2.2.1 v0.2.2.2.2.2.2.2.2))) rfl (pi (fun r5 u6 hw => ?_))
    refine v_to (wCD G a0 v0.1 v0.2.1 v0.2.2.1 v0.2.2.2.1 v0.2.2.2.2.1 v0.2.2.2.2.2.1 v0.2.2.2.2.2.2) 25 [(0, .ref a0.1), (1, .int i0), (2, .int i1), (3, .int z4)] _ [.int r5] rfl rfl rfl rfl ?_
    refine v_if_eq (pc2 := 28) (tgt := 32) S dX8_ifOpened_25 (by decide) rfl (fun c7 => ?_) (fun c7 => ?_)
    · have hw := hw.1 c7
      refine v_iconst (v := 0) (pc2 := 33) S dX8_ifOpened_32 (by decide) rfl ?_
      exact B33 i0 i1 z4 (0 : Int32) hw
    · have hw := hw.2 c7
      refine v_iconst (v := 1) (pc2 := 29) S dX8_ifOpened_28 (by decide) rfl ?_
      refine v_goto (tgt := 33) S dX8_ifOpened_29 (by decide) ?_
      exact B33 i0 i1 z4 (1 : Int32) hw
  · have hw := hw.2 c3
    refine v_iconst (v := -1) (pc2 := 8) S dX8_ifOpened_7 (by decide) rfl ?_
    exact v_iret S ⟨(-1 : Int32), (), rfl, rfl, hw⟩ dX8_ifOpened_8
