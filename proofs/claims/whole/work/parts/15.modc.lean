set_option maxHeartbeats 4000000 in
set_option maxRecDepth 100000 in
theorem c_X9_cord (l : Launch) (G : GG) (a0 : ModA) (v0 : ModV) (i0 : Int32) (i1 : Int32) (i2 : Int32) (Q : Int32 → ModV → Prop) (hw : wp_X9_cord v0 i0 i1 i2 Q) : Con l G yX9_cord cX9_cord 4 (some .int) { frames := 2, cells := 0, slots := 0, locals := 45 } [.ref a0.1, .int i0, .int i1, .int i2] (wMod G a0 v0.1 v0.2.1 v0.2.2.1 v0.2.2.2.1 v0.2.2.2.2.1 v0.2.2.2.2.2.1 v0.2.2.2.2.2.2.1 v0.2.2.2.2.2.2.2.1 v0.2.2.2.2.2.2.2.2.1 v0.2.2.2.2.2.2.2.2.2.1 v0.2.2.2.2.2.2.2.2.2.2.1 v0.2.2.2.2.2.2.2.2.2.2.2.1 v0.2.2.2.2.2.2.2.2.2.2.2.2.1 v0.2.2.2.2.2.2.2.2.2.2.2.2.2.1 v0.2.2.2.2.2.2.2.2.2.2.2.2.2.2.1 v0.2.2.2.2.2.2.2.2.2.2.2.2.2.2.2.1 v0.2.2.2.2.2.2.2.2.2.2.2.2.2.2.2.2) (PI (fun u : ModV => wMod G a0 u.1 u.2.1 u.2.2.1 u.2.2.2.1 u.2.2.2.2.1 u.2.2.2.2.2.1 u.2.2.2.2.2.2.1 u.2.2.2.2.2.2.2.1 u.2.2.2.2.2.2.2.2.1 u.2.2.2.2.2.2.2.2.2.1 u.2.2.2.2.2.2.2.2.2.2.1 u.2.2.2.2.2.2.2.2.2.2.2.1 u.2.2.2.2.2.2.2.2.2.2.2.2.1 u.2.2.2.2.2.2.2.2.2.2.2.2.2.1 u.2.2.2.2.2.2.2.2.2.2.2.2.2.2.1 u.2.2.2.2.2.2.2.2.2.2.2.2.2.2.2.1 u.2.2.2.2.2.2.2.2.2.2.2.2.2.2.2.2) Q) 0 0 := by
  refine con_of RX9 rfl (by decide) [(0, .ref a0.1), (1, .int i0), (2, .int i1), (3, .int i2)] rfl (Nat.le_of_ble_eq_true rfl) ?_
  intro p e s m args below meth c S hname
  have B82 : ∀ (x1 : Int32) (x2 : Int32) (x3 : Int32) (w0 : ModV), wp_X9_cord_B82 x1 x2 x3 w0 Q → V p l e { frames := 2, cells := 0, slots := 0, locals := 45 } s m args below meth c G (va_A (wMod G a0 v0.1 v0.2.1 v0.2.2.1 v0.2.2.2.1 v0.2.2.2.2.1 v0.2.2.2.2.2.1 v0.2.2.2.2.2.2.1 v0.2.2.2.2.2.2.2.1 v0.2.2.2.2.2.2.2.2.1 v0.2.2.2.2.2.2.2.2.2.1 v0.2.2.2.2.2.2.2.2.2.2.1 v0.2.2.2.2.2.2.2.2.2.2.2.1 v0.2.2.2.2.2.2.2.2.2.2.2.2.1 v0.2.2.2.2.2.2.2.2.2.2.2.2.2.1 v0.2.2.2.2.2.2.2.2.2.2.2.2.2.2.1 v0.2.2.2.2.2.2.2.2.2.2.2.2.2.2.2.1 v0.2.2.2.2.2.2.2.2.2.2.2.2.2.2.2.2) s.heap.size) 4 0 0 (MQ below (EQ G (wMod G a0 v0.1 v0.2.1 v0.2.2.1 v0.2.2.2.1 v0.2.2.2.2.1 v0.2.2.2.2.2.1 v0.2.2.2.2.2.2.1 v0.2.2.2.2.2.2.2.1 v0.2.2.2.2.2.2.2.2.1 v0.2.2.2.2.2.2.2.2.2.1 v0.2.2.2.2.2.2.2.2.2.2.1 v0.2.2.2.2.2.2.2.2.2.2.2.1 v0.2.2.2.2.2.2.2.2.2.2.2.2.1 v0.2.2.2.2.2.2.2.2.2.2.2.2.2.1 v0.2.2.2.2.2.2.2.2.2.2.2.2.2.2.1 v0.2.2.2.2.2.2.2.2.2.2.2.2.2.2.2.1 v0.2.2.2.2.2.2.2.2.2.2.2.2.2.2.2.2) s.heap.size (PI (fun u : ModV => wMod G a0 u.1 u.2.1 u.2.2.1 u.2.2.2.1 u.2.2.2.2.1 u.2.2.2.2.2.1 u.2.2.2.2.2.2.1 u.2.2.2.2.2.2.2.1 u.2.2.2.2.2.2.2.2.1 u.2.2.2.2.2.2.2.2.2.1 u.2.2.2.2.2.2.2.2.2.2.1 u.2.2.2.2.2.2.2.2.2.2.2.1 u.2.2.2.2.2.2.2.2.2.2.2.2.1 u.2.2.2.2.2.2.2.2.2.2.2.2.2.1 u.2.2.2.2.2.2.2.2.2.2.2.2.2.2.1 u.2.2.2.2.2.2.2.2.2.2.2.2.2.2.2.1 u.2.2.2.2.2.2.2.2.2.2.2.2.2.2.2.2) Q)) args s 0 0 (va_A (wMod G a0 v0.1 v0.2.1 v0.2.2.1 v0.2.2.2.1 v0.2.2.2.2.1 v0.2.2.2.2.2.1 v0.2.2.2.2.2.2.1 v0.2.2.2.2.2.2.2.1 v0.2.2.2.2.2.2.2.2.1 v0.2.2.2.2.2.2.2.2.2.1 v0.2.2.2.2.2.2.2.2.2.2.1 v0.2.2.2.2.2.2.2.2.2.2.2.1 v0.2.2.2.2.2.2.2.2.2.2.2.2.1 v0.2.2.2.2.2.2.2.2.2.2.2.2.2.1 v0.2.2.2.2.2.2.2.2.2.2.2.2.2.2.1 v0.2.2.2.2.2.2.2.2.2.2.2.2.2.2.2.1 v0.2.2.2.2.2.2.2.2.2.2.2.2.2.2.2.2) s.heap.size)) (wMod G a0 w0.1 w0.2.1 w0.2.2.1 w0.2.2.2.1 w0.2.2.2.2.1 w0.2.2.2.2.2.1 w0.2.2.2.2.2.2.1 w0.2.2.2.2.2.2.2.1 w0.2.2.2.2.2.2.2.2.1 w0.2.2.2.2.2.2.2.2.2.1 w0.2.2.2.2.2.2.2.2.2.2.1 w0.2.2.2.2.2.2.2.2.2.2.2.1 w0.2.2.2.2.2.2.2.2.2.2.2.2.1 w0.2.2.2.2.2.2.2.2.2.2.2.2.2.1 w0.2.2.2.2.2.2.2.2.2.2.2.2.2.2.1 w0.2.2.2.2.2.2.2.2.2.2.2.2.2.2.2.1 w0.2.2.2.2.2.2.2.2.2.2.2.2.2.2.2.2) 82 [(0, .ref a0.1), (1, .int x1), (2, .int x2), (3, .int x3)] [] := by
    intro x1 x2 x3 w0 hw
    refine v_aload_n (pc2 := 83) S 0 dX9_cord_82 rfl rfl rfl ?_
    refine v_iload_n (pc2 := 84) S 1 dX9_cord_83 rfl rfl rfl ?_
    refine v_iload_n (pc2 := 85) S 2 dX9_cord_84 rfl rfl rfl ?_
    refine v_if_eq (pc2 := 88) (tgt := 92) S dX9_cord_85 (by decide) rfl (fun c12 => ?_) (fun c12 => ?_)
    · have hw := hw.1 c12
      refine v_iconst (v := 3) (pc2 := 93) S dX9_cord_92 (by decide) rfl ?_
      refine v_iload_n (pc2 := 94) S 3 dX9_cord_93 rfl rfl rfl ?_
      refine v_bipush (v := 10) (pc2 := 96) S dX9_cord_94 (by decide) rfl ?_
      refine v_icmp_ne (pc2 := 99) (tgt := 104) S dX9_cord_96 (by decide) rfl (fun c13 => ?_) (fun c13 => ?_)
      · have hw := hw.1 c13
        refine v_iload_n (pc2 := 105) S 3 dX9_cord_104 rfl rfl rfl ?_
        refine v_callV (pc2 := 108) (As := [.int x1, .int (3 : Int32), .int x3]) (rest := []) S (c_X9_lay l G a0 w0 x1 (3 : Int32) x3 _ hw) mf_X9_lay u_771 u_773 u_19 0 9 rfl rfl rfl rfl ⟨rfl, rfl⟩ ⟨Nat.le_of_ble_eq_true rfl, Nat.le_of_ble_eq_true rfl⟩ ⟨Nat.le_of_ble_eq_true rfl, Nat.le_of_ble_eq_true rfl⟩ (Nat.le_of_ble_eq_true rfl) dX9_cord_105 (frW _) rfl (pv (fun u15 hw => ?_))
        refine v_to (wMod G a0 u15.1 u15.2.1 u15.2.2.1 u15.2.2.2.1 u15.2.2.2.2.1 u15.2.2.2.2.2.1 u15.2.2.2.2.2.2.1 u15.2.2.2.2.2.2.2.1 u15.2.2.2.2.2.2.2.2.1 u15.2.2.2.2.2.2.2.2.2.1 u15.2.2.2.2.2.2.2.2.2.2.1 u15.2.2.2.2.2.2.2.2.2.2.2.1 u15.2.2.2.2.2.2.2.2.2.2.2.2.1 u15.2.2.2.2.2.2.2.2.2.2.2.2.2.1 u15.2.2.2.2.2.2.2.2.2.2.2.2.2.2.1 u15.2.2.2.2.2.2.2.2.2.2.2.2.2.2.2.1 u15.2.2.2.2.2.2.2.2.2.2.2.2.2.2.2.2) 108 [(0, .ref a0.1), (1, .int x1), (2, .int x2), (3, .int x3)] _ [] rfl rfl rfl rfl ?_
        refine v_bipush (v := 10) (pc2 := 110) S dX9_cord_108 (by decide) rfl ?_
        exact v_iret S ⟨(10 : Int32), u15, rfl, rfl, hw⟩ dX9_cord_110
      · have hw := hw.2 c13
        refine v_bipush (v := -4) (pc2 := 101) S dX9_cord_99 (by decide) rfl ?_
        refine v_goto (tgt := 105) S dX9_cord_101 (by decide) ?_
        refine v_callV (pc2 := 108) (As := [.int x1, .int (3 : Int32), .int (-4 : Int32)]) (rest := []) S (c_X9_lay l G a0 w0 x1 (3 : Int32) (-4 : Int32) _ hw) mf_X9_lay u_771 u_773 u_19 0 9 rfl rfl rfl rfl ⟨rfl, rfl⟩ ⟨Nat.le_of_ble_eq_true rfl, Nat.le_of_ble_eq_true rfl⟩ ⟨Nat.le_of_ble_eq_true rfl, Nat.le_of_ble_eq_true rfl⟩ (Nat.le_of_ble_eq_true rfl) dX9_cord_105 (frW _) rfl (pv (fun u17 hw => ?_))
        refine v_to (wMod G a0 u17.1 u17.2.1 u17.2.2.1 u17.2.2.2.1 u17.2.2.2.2.1 u17.2.2.2.2.2.1 u17.2.2.2.2.2.2.1 u17.2.2.2.2.2.2.2.1 u17.2.2.2.2.2.2.2.2.1 u17.2.2.2.2.2.2.2.2.2.1 u17.2.2.2.2.2.2.2.2.2.2.1 u17.2.2.2.2.2.2.2.2.2.2.2.1 u17.2.2.2.2.2.2.2.2.2.2.2.2.1 u17.2.2.2.2.2.2.2.2.2.2.2.2.2.1 u17.2.2.2.2.2.2.2.2.2.2.2.2.2.2.1 u17.2.2.2.2.2.2.2.2.2.2.2.2.2.2.2.1 u17.2.2.2.2.2.2.2.2.2.2.2.2.2.2.2.2) 108 [(0, .ref a0.1), (1, .int x1), (2, .int x2), (3, .int x3)] _ [] rfl rfl rfl rfl ?_
        refine v_bipush (v := 10) (pc2 := 110) S dX9_cord_108 (by decide) rfl ?_
        exact v_iret S ⟨(10 : Int32), u17, rfl, rfl, hw⟩ dX9_cord_110
    · have hw := hw.2 c12
      refine v_iconst (v := 4) (pc2 := 89) S dX9_cord_88 (by decide) rfl ?_
      refine v_goto (tgt := 93) S dX9_cord_89 (by decide) ?_
      refine v_iload_n (pc2 := 94) S 3 dX9_cord_93 rfl rfl rfl ?_
      refine v_bipush (v := 10) (pc2 := 96) S dX9_cord_94 (by decide) rfl ?_
      refine v_icmp_ne (pc2 := 99) (tgt := 104) S dX9_cord_96 (by decide) rfl (fun c18 => ?_) (fun c18 => ?_)
      · have hw := hw.1 c18
        refine v_iload_n (pc2 := 105) S 3 dX9_cord_104 rfl rfl rfl ?_
        refine v_callV (pc2 := 108) (As := [.int x1, .int (4 : Int32), .int x3]) (rest := []) S (c_X9_lay l G a0 w0 x1 (4 : Int32) x3 _ hw) mf_X9_lay u_771 u_773 u_19 0 9 rfl rfl rfl rfl ⟨rfl, rfl⟩ ⟨Nat.le_of_ble_eq_true rfl, Nat.le_of_ble_eq_true rfl⟩ ⟨Nat.le_of_ble_eq_true rfl, Nat.le_of_ble_eq_true rfl⟩ (Nat.le_of_ble_eq_true rfl) dX9_cord_105 (frW _) rfl (pv (fun u20 hw => ?_))
        refine v_to (wMod G a0 u20.1 u20.2.1 u20.2.2.1 u20.2.2.2.1 u20.2.2.2.2.1 u20.2.2.2.2.2.1 u20.2.2.2.2.2.2.1 u20.2.2.2.2.2.2.2.1 u20.2.2.2.2.2.2.2.2.1 u20.2.2.2.2.2.2.2.2.2.1 u20.2.2.2.2.2.2.2.2.2.2.1 u20.2.2.2.2.2.2.2.2.2.2.2.1 u20.2.2.2.2.2.2.2.2.2.2.2.2.1 u20.2.2.2.2.2.2.2.2.2.2.2.2.2.1 u20.2.2.2.2.2.2.2.2.2.2.2.2.2.2.1 u20.2.2.2.2.2.2.2.2.2.2.2.2.2.2.2.1 u20.2.2.2.2.2.2.2.2.2.2.2.2.2.2.2.2) 108 [(0, .ref a0.1), (1, .int x1), (2, .int x2), (3, .int x3)] _ [] rfl rfl rfl rfl ?_
        refine v_bipush (v := 10) (pc2 := 110) S dX9_cord_108 (by decide) rfl ?_
        exact v_iret S ⟨(10 : Int32), u20, rfl, rfl, hw⟩ dX9_cord_110
      · have hw := hw.2 c18
        refine v_bipush (v := -4) (pc2 := 101) S dX9_cord_99 (by decide) rfl ?_
        refine v_goto (tgt := 105) S dX9_cord_101 (by decide) ?_
        refine v_callV (pc2 := 108) (As := [.int x1, .int (4 : Int32), .int (-4 : Int32)]) (rest := []) S (c_X9_lay l G a0 w0 x1 (4 : Int32) (-4 : Int32) _ hw) mf_X9_lay u_771 u_773 u_19 0 9 rfl rfl rfl rfl ⟨rfl, rfl⟩ ⟨Nat.le_of_ble_eq_true rfl, Nat.le_of_ble_eq_true rfl⟩ ⟨Nat.le_of_ble_eq_true rfl, Nat.le_of_ble_eq_true rfl⟩ (Nat.le_of_ble_eq_true rfl) dX9_cord_105 (frW _) rfl (pv (fun u22 hw => ?_))
        refine v_to (wMod G a0 u22.1 u22.2.1 u22.2.2.1 u22.2.2.2.1 u22.2.2.2.2.1 u22.2.2.2.2.2.1 u22.2.2.2.2.2.2.1 u22.2.2.2.2.2.2.2.1 u22.2.2.2.2.2.2.2.2.1 u22.2.2.2.2.2.2.2.2.2.1 u22.2.2.2.2.2.2.2.2.2.2.1 u22.2.2.2.2.2.2.2.2.2.2.2.1 u22.2.2.2.2.2.2.2.2.2.2.2.2.1 u22.2.2.2.2.2.2.2.2.2.2.2.2.2.1 u22.2.2.2.2.2.2.2.2.2.2.2.2.2.2.1 u22.2.2.2.2.2.2.2.2.2.2.2.2.2.2.2.1 u22.2.2.2.2.2.2.2.2.2.2.2.2.2.2.2.2) 108 [(0, .ref a0.1), (1, .int x1), (2, .int x2), (3, .int x3)] _ [] rfl rfl rfl rfl ?_
        refine v_bipush (v := 10) (pc2 := 110) S dX9_cord_108 (by decide) rfl ?_
        exact v_iret S ⟨(10 : Int32), u22, rfl, rfl, hw⟩ dX9_cord_110
  have B50 : ∀ (x1 : Int32) (x2 : Int32) (x3 : Int32) (w0 : ModV), wp_X9_cord_B50 x1 x2 x3 w0 Q → V p l e { frames := 2, cells := 0, slots := 0, locals := 45 } s m args below meth c G (va_A (wMod G a0 v0.1 v0.2.1 v0.2.2.1 v0.2.2.2.1 v0.2.2.2.2.1 v0.2.2.2.2.2.1 v0.2.2.2.2.2.2.1 v0.2.2.2.2.2.2.2.1 v0.2.2.2.2.2.2.2.2.1 v0.2.2.2.2.2.2.2.2.2.1 v0.2.2.2.2.2.2.2.2.2.2.1 v0.2.2.2.2.2.2.2.2.2.2.2.1 v0.2.2.2.2.2.2.2.2.2.2.2.2.1 v0.2.2.2.2.2.2.2.2.2.2.2.2.2.1 v0.2.2.2.2.2.2.2.2.2.2.2.2.2.2.1 v0.2.2.2.2.2.2.2.2.2.2.2.2.2.2.2.1 v0.2.2.2.2.2.2.2.2.2.2.2.2.2.2.2.2) s.heap.size) 4 0 0 (MQ below (EQ G (wMod G a0 v0.1 v0.2.1 v0.2.2.1 v0.2.2.2.1 v0.2.2.2.2.1 v0.2.2.2.2.2.1 v0.2.2.2.2.2.2.1 v0.2.2.2.2.2.2.2.1 v0.2.2.2.2.2.2.2.2.1 v0.2.2.2.2.2.2.2.2.2.1 v0.2.2.2.2.2.2.2.2.2.2.1 v0.2.2.2.2.2.2.2.2.2.2.2.1 v0.2.2.2.2.2.2.2.2.2.2.2.2.1 v0.2.2.2.2.2.2.2.2.2.2.2.2.2.1 v0.2.2.2.2.2.2.2.2.2.2.2.2.2.2.1 v0.2.2.2.2.2.2.2.2.2.2.2.2.2.2.2.1 v0.2.2.2.2.2.2.2.2.2.2.2.2.2.2.2.2) s.heap.size (PI (fun u : ModV => wMod G a0 u.1 u.2.1 u.2.2.1 u.2.2.2.1 u.2.2.2.2.1 u.2.2.2.2.2.1 u.2.2.2.2.2.2.1 u.2.2.2.2.2.2.2.1 u.2.2.2.2.2.2.2.2.1 u.2.2.2.2.2.2.2.2.2.1 u.2.2.2.2.2.2.2.2.2.2.1 u.2.2.2.2.2.2.2.2.2.2.2.1 u.2.2.2.2.2.2.2.2.2.2.2.2.1 u.2.2.2.2.2.2.2.2.2.2.2.2.2.1 u.2.2.2.2.2.2.2.2.2.2.2.2.2.2.1 u.2.2.2.2.2.2.2.2.2.2.2.2.2.2.2.1 u.2.2.2.2.2.2.2.2.2.2.2.2.2.2.2.2) Q)) args s 0 0 (va_A (wMod G a0 v0.1 v0.2.1 v0.2.2.1 v0.2.2.2.1 v0.2.2.2.2.1 v0.2.2.2.2.2.1 v0.2.2.2.2.2.2.1 v0.2.2.2.2.2.2.2.1 v0.2.2.2.2.2.2.2.2.1 v0.2.2.2.2.2.2.2.2.2.1 v0.2.2.2.2.2.2.2.2.2.2.1 v0.2.2.2.2.2.2.2.2.2.2.2.1 v0.2.2.2.2.2.2.2.2.2.2.2.2.1 v0.2.2.2.2.2.2.2.2.2.2.2.2.2.1 v0.2.2.2.2.2.2.2.2.2.2.2.2.2.2.1 v0.2.2.2.2.2.2.2.2.2.2.2.2.2.2.2.1 v0.2.2.2.2.2.2.2.2.2.2.2.2.2.2.2.2) s.heap.size)) (wMod G a0 w0.1 w0.2.1 w0.2.2.1 w0.2.2.2.1 w0.2.2.2.2.1 w0.2.2.2.2.2.1 w0.2.2.2.2.2.2.1 w0.2.2.2.2.2.2.2.1 w0.2.2.2.2.2.2.2.2.1 w0.2.2.2.2.2.2.2.2.2.1 w0.2.2.2.2.2.2.2.2.2.2.1 w0.2.2.2.2.2.2.2.2.2.2.2.1 w0.2.2.2.2.2.2.2.2.2.2.2.2.1 w0.2.2.2.2.2.2.2.2.2.2.2.2.2.1 w0.2.2.2.2.2.2.2.2.2.2.2.2.2.2.1 w0.2.2.2.2.2.2.2.2.2.2.2.2.2.2.2.1 w0.2.2.2.2.2.2.2.2.2.2.2.2.2.2.2.2) 50 [(0, .ref a0.1), (1, .int x1), (2, .int x2), (3, .int x3)] [] := by
    intro x1 x2 x3 w0 hw
    refine v_aload_n (pc2 := 51) S 0 dX9_cord_50 rfl rfl rfl ?_
    refine v_callV (pc2 := 54) (As := []) (rest := []) S (c_X9_record l G a0 w0 _ hw) mf_X9_record u_850 u_852 u_22 0 9 rfl rfl rfl rfl ⟨rfl, rfl⟩ ⟨Nat.le_of_ble_eq_true rfl, Nat.le_of_ble_eq_true rfl⟩ ⟨Nat.le_of_ble_eq_true rfl, Nat.le_of_ble_eq_true rfl⟩ (Nat.le_of_ble_eq_true rfl) dX9_cord_51 (frW _) rfl (pv (fun u10 hw => ?_))
    refine v_to (wMod G a0 u10.1 u10.2.1 u10.2.2.1 u10.2.2.2.1 u10.2.2.2.2.1 u10.2.2.2.2.2.1 u10.2.2.2.2.2.2.1 u10.2.2.2.2.2.2.2.1 u10.2.2.2.2.2.2.2.2.1 u10.2.2.2.2.2.2.2.2.2.1 u10.2.2.2.2.2.2.2.2.2.2.1 u10.2.2.2.2.2.2.2.2.2.2.2.1 u10.2.2.2.2.2.2.2.2.2.2.2.2.1 u10.2.2.2.2.2.2.2.2.2.2.2.2.2.1 u10.2.2.2.2.2.2.2.2.2.2.2.2.2.2.1 u10.2.2.2.2.2.2.2.2.2.2.2.2.2.2.2.1 u10.2.2.2.2.2.2.2.2.2.2.2.2.2.2.2.2) 54 [(0, .ref a0.1), (1, .int x1), (2, .int x2), (3, .int x3)] _ [] rfl rfl rfl rfl ?_
    refine v_iload_n (pc2 := 55) S 3 dX9_cord_54 rfl rfl rfl ?_
    refine v_bipush (v := 10) (pc2 := 57) S dX9_cord_55 (by decide) rfl ?_
    refine v_icmp_ge (pc2 := 60) (tgt := 82) S dX9_cord_57 (by decide) rfl (fun c11 => ?_) (fun c11 => ?_)
    · have hw := hw.1 c11
      exact B82 x1 x2 x3 u10 hw
    · have hw := hw.2 c11
      refine v_aload_n (pc2 := 61) S 0 dX9_cord_60 rfl rfl rfl ?_
      refine v_iload_n (pc2 := 62) S 1 dX9_cord_61 rfl rfl rfl ?_
      refine v_callV (pc2 := 65) (As := [.int x1]) (rest := []) S (c_X9_isOpen l G a0 u10 x1 _ hw) mf_X9_isOpen u_872 u_874 u_25 0 9 rfl rfl rfl rfl ⟨rfl, rfl⟩ ⟨Nat.le_of_ble_eq_true rfl, Nat.le_of_ble_eq_true rfl⟩ ⟨Nat.le_of_ble_eq_true rfl, Nat.le_of_ble_eq_true rfl⟩ (Nat.le_of_ble_eq_true rfl) dX9_cord_62 (frW _) rfl (pb (fun r23 u24 br23 hw => ?_))
      refine v_to (wMod G a0 u10.1 u10.2.1 u10.2.2.1 u10.2.2.2.1 u10.2.2.2.2.1 u10.2.2.2.2.2.1 u10.2.2.2.2.2.2.1 u10.2.2.2.2.2.2.2.1 u10.2.2.2.2.2.2.2.2.1 u10.2.2.2.2.2.2.2.2.2.1 u10.2.2.2.2.2.2.2.2.2.2.1 u10.2.2.2.2.2.2.2.2.2.2.2.1 u10.2.2.2.2.2.2.2.2.2.2.2.2.1 u10.2.2.2.2.2.2.2.2.2.2.2.2.2.1 u10.2.2.2.2.2.2.2.2.2.2.2.2.2.2.1 u10.2.2.2.2.2.2.2.2.2.2.2.2.2.2.2.1 u10.2.2.2.2.2.2.2.2.2.2.2.2.2.2.2.2) 65 [(0, .ref a0.1), (1, .int x1), (2, .int x2), (3, .int x3)] _ [.int r23] rfl rfl rfl rfl ?_
      refine v_if_eq (pc2 := 68) (tgt := 82) S dX9_cord_65 (by decide) rfl (fun c25 => ?_) (fun c25 => ?_)
      · have hw := hw.1 c25
        exact B82 x1 x2 x3 u10 hw
      · have hw := hw.2 c25
        refine v_aload_n (pc2 := 69) S 0 dX9_cord_68 rfl rfl rfl ?_
        refine v_iload_n (pc2 := 70) S 3 dX9_cord_69 rfl rfl rfl ?_
        refine v_callV (pc2 := 73) (As := [.int x3]) (rest := []) S (c_X9_isOpen l G a0 u10 x3 _ hw) mf_X9_isOpen u_872 u_874 u_25 0 9 rfl rfl rfl rfl ⟨rfl, rfl⟩ ⟨Nat.le_of_ble_eq_true rfl, Nat.le_of_ble_eq_true rfl⟩ ⟨Nat.le_of_ble_eq_true rfl, Nat.le_of_ble_eq_true rfl⟩ (Nat.le_of_ble_eq_true rfl) dX9_cord_70 (frW _) rfl (pb (fun r26 u27 br26 hw => ?_))
        refine v_to (wMod G a0 u10.1 u10.2.1 u10.2.2.1 u10.2.2.2.1 u10.2.2.2.2.1 u10.2.2.2.2.2.1 u10.2.2.2.2.2.2.1 u10.2.2.2.2.2.2.2.1 u10.2.2.2.2.2.2.2.2.1 u10.2.2.2.2.2.2.2.2.2.1 u10.2.2.2.2.2.2.2.2.2.2.1 u10.2.2.2.2.2.2.2.2.2.2.2.1 u10.2.2.2.2.2.2.2.2.2.2.2.2.1 u10.2.2.2.2.2.2.2.2.2.2.2.2.2.1 u10.2.2.2.2.2.2.2.2.2.2.2.2.2.2.1 u10.2.2.2.2.2.2.2.2.2.2.2.2.2.2.2.1 u10.2.2.2.2.2.2.2.2.2.2.2.2.2.2.2.2) 73 [(0, .ref a0.1), (1, .int x1), (2, .int x2), (3, .int x3)] _ [.int r26] rfl rfl rfl rfl ?_
        refine v_if_eq (pc2 := 76) (tgt := 82) S dX9_cord_73 (by decide) rfl (fun c28 => ?_) (fun c28 => ?_)
        · have hw := hw.1 c28
          exact B82 x1 x2 x3 u10 hw
        · have hw := hw.2 c28
          refine v_aload_n (pc2 := 77) S 0 dX9_cord_76 rfl rfl rfl ?_
          refine v_iconst (v := 4) (pc2 := 78) S dX9_cord_77 (by decide) rfl ?_
          refine v_callV (pc2 := 81) (As := [.int (4 : Int32)]) (rest := []) S (c_X9_refuse l G a0 u10 (4 : Int32) _ hw) mf_X9_refuse u_884 u_886 u_28 0 9 rfl rfl rfl rfl ⟨rfl, rfl⟩ ⟨Nat.le_of_ble_eq_true rfl, Nat.le_of_ble_eq_true rfl⟩ ⟨Nat.le_of_ble_eq_true rfl, Nat.le_of_ble_eq_true rfl⟩ (Nat.le_of_ble_eq_true rfl) dX9_cord_78 (frW _) rfl (pi (fun r29 u30 hw => ?_))
          refine v_to (wMod G a0 u30.1 u30.2.1 u30.2.2.1 u30.2.2.2.1 u30.2.2.2.2.1 u30.2.2.2.2.2.1 u30.2.2.2.2.2.2.1 u30.2.2.2.2.2.2.2.1 u30.2.2.2.2.2.2.2.2.1 u30.2.2.2.2.2.2.2.2.2.1 u30.2.2.2.2.2.2.2.2.2.2.1 u30.2.2.2.2.2.2.2.2.2.2.2.1 u30.2.2.2.2.2.2.2.2.2.2.2.2.1 u30.2.2.2.2.2.2.2.2.2.2.2.2.2.1 u30.2.2.2.2.2.2.2.2.2.2.2.2.2.2.1 u30.2.2.2.2.2.2.2.2.2.2.2.2.2.2.2.1 u30.2.2.2.2.2.2.2.2.2.2.2.2.2.2.2.2) 81 [(0, .ref a0.1), (1, .int x1), (2, .int x2), (3, .int x3)] _ [.int r29] rfl rfl rfl rfl ?_
          exact v_iret S ⟨r29, u30, rfl, rfl, hw⟩ dX9_cord_81
  have B41 : ∀ (x1 : Int32) (x2 : Int32) (x3 : Int32) (t1 : Int32) (t2 : Int32) (w0 : ModV), wp_X9_cord_B41 x1 x2 x3 t1 t2 w0 Q → V p l e { frames := 2, cells := 0, slots := 0, locals := 45 } s m args below meth c G (va_A (wMod G a0 v0.1 v0.2.1 v0.2.2.1 v0.2.2.2.1 v0.2.2.2.2.1 v0.2.2.2.2.2.1 v0.2.2.2.2.2.2.1 v0.2.2.2.2.2.2.2.1 v0.2.2.2.2.2.2.2.2.1 v0.2.2.2.2.2.2.2.2.2.1 v0.2.2.2.2.2.2.2.2.2.2.1 v0.2.2.2.2.2.2.2.2.2.2.2.1 v0.2.2.2.2.2.2.2.2.2.2.2.2.1 v0.2.2.2.2.2.2.2.2.2.2.2.2.2.1 v0.2.2.2.2.2.2.2.2.2.2.2.2.2.2.1 v0.2.2.2.2.2.2.2.2.2.2.2.2.2.2.2.1 v0.2.2.2.2.2.2.2.2.2.2.2.2.2.2.2.2) s.heap.size) 4 0 0 (MQ below (EQ G (wMod G a0 v0.1 v0.2.1 v0.2.2.1 v0.2.2.2.1 v0.2.2.2.2.1 v0.2.2.2.2.2.1 v0.2.2.2.2.2.2.1 v0.2.2.2.2.2.2.2.1 v0.2.2.2.2.2.2.2.2.1 v0.2.2.2.2.2.2.2.2.2.1 v0.2.2.2.2.2.2.2.2.2.2.1 v0.2.2.2.2.2.2.2.2.2.2.2.1 v0.2.2.2.2.2.2.2.2.2.2.2.2.1 v0.2.2.2.2.2.2.2.2.2.2.2.2.2.1 v0.2.2.2.2.2.2.2.2.2.2.2.2.2.2.1 v0.2.2.2.2.2.2.2.2.2.2.2.2.2.2.2.1 v0.2.2.2.2.2.2.2.2.2.2.2.2.2.2.2.2) s.heap.size (PI (fun u : ModV => wMod G a0 u.1 u.2.1 u.2.2.1 u.2.2.2.1 u.2.2.2.2.1 u.2.2.2.2.2.1 u.2.2.2.2.2.2.1 u.2.2.2.2.2.2.2.1 u.2.2.2.2.2.2.2.2.1 u.2.2.2.2.2.2.2.2.2.1 u.2.2.2.2.2.2.2.2.2.2.1 u.2.2.2.2.2.2.2.2.2.2.2.1 u.2.2.2.2.2.2.2.2.2.2.2.2.1 u.2.2.2.2.2.2.2.2.2.2.2.2.2.1 u.2.2.2.2.2.2.2.2.2.2.2.2.2.2.1 u.2.2.2.2.2.2.2.2.2.2.2.2.2.2.2.1 u.2.2.2.2.2.2.2.2.2.2.2.2.2.2.2.2) Q)) args s 0 0 (va_A (wMod G a0 v0.1 v0.2.1 v0.2.2.1 v0.2.2.2.1 v0.2.2.2.2.1 v0.2.2.2.2.2.1 v0.2.2.2.2.2.2.1 v0.2.2.2.2.2.2.2.1 v0.2.2.2.2.2.2.2.2.1 v0.2.2.2.2.2.2.2.2.2.1 v0.2.2.2.2.2.2.2.2.2.2.1 v0.2.2.2.2.2.2.2.2.2.2.2.1 v0.2.2.2.2.2.2.2.2.2.2.2.2.1 v0.2.2.2.2.2.2.2.2.2.2.2.2.2.1 v0.2.2.2.2.2.2.2.2.2.2.2.2.2.2.1 v0.2.2.2.2.2.2.2.2.2.2.2.2.2.2.2.1 v0.2.2.2.2.2.2.2.2.2.2.2.2.2.2.2.2) s.heap.size)) (wMod G a0 w0.1 w0.2.1 w0.2.2.1 w0.2.2.2.1 w0.2.2.2.2.1 w0.2.2.2.2.2.1 w0.2.2.2.2.2.2.1 w0.2.2.2.2.2.2.2.1 w0.2.2.2.2.2.2.2.2.1 w0.2.2.2.2.2.2.2.2.2.1 w0.2.2.2.2.2.2.2.2.2.2.1 w0.2.2.2.2.2.2.2.2.2.2.2.1 w0.2.2.2.2.2.2.2.2.2.2.2.2.1 w0.2.2.2.2.2.2.2.2.2.2.2.2.2.1 w0.2.2.2.2.2.2.2.2.2.2.2.2.2.2.1 w0.2.2.2.2.2.2.2.2.2.2.2.2.2.2.2.1 w0.2.2.2.2.2.2.2.2.2.2.2.2.2.2.2.2) 41 [(0, .ref a0.1), (1, .int x1), (2, .int x2), (3, .int x3)] [.int t2, .int t1, .ref a0.1] := by
    intro x1 x2 x3 t1 t2 w0 hw
    refine v_callV (pc2 := 44) (As := [.int t1, .int t2]) (rest := []) S (c_X9_of l G a0 w0 t1 t2 _ hw) mf_X9_of u_842 u_844 u_21 0 9 rfl rfl rfl rfl ⟨rfl, rfl⟩ ⟨Nat.le_of_ble_eq_true rfl, Nat.le_of_ble_eq_true rfl⟩ ⟨Nat.le_of_ble_eq_true rfl, Nat.le_of_ble_eq_true rfl⟩ (Nat.le_of_ble_eq_true rfl) dX9_cord_41 (frW _) rfl (pi (fun r32 u33 hw => ?_))
    refine v_to (wMod G a0 w0.1 w0.2.1 w0.2.2.1 w0.2.2.2.1 w0.2.2.2.2.1 w0.2.2.2.2.2.1 w0.2.2.2.2.2.2.1 w0.2.2.2.2.2.2.2.1 w0.2.2.2.2.2.2.2.2.1 w0.2.2.2.2.2.2.2.2.2.1 w0.2.2.2.2.2.2.2.2.2.2.1 w0.2.2.2.2.2.2.2.2.2.2.2.1 w0.2.2.2.2.2.2.2.2.2.2.2.2.1 w0.2.2.2.2.2.2.2.2.2.2.2.2.2.1 w0.2.2.2.2.2.2.2.2.2.2.2.2.2.2.1 w0.2.2.2.2.2.2.2.2.2.2.2.2.2.2.2.1 w0.2.2.2.2.2.2.2.2.2.2.2.2.2.2.2.2) 44 [(0, .ref a0.1), (1, .int x1), (2, .int x2), (3, .int x3)] _ [.int r32] rfl rfl rfl rfl ?_
    refine v_iload_n (pc2 := 45) S 3 dX9_cord_44 rfl rfl rfl ?_
    refine v_icmp_ne (pc2 := 48) (tgt := 50) S dX9_cord_45 (by decide) rfl (fun c34 => ?_) (fun c34 => ?_)
    · have hw := hw.1 c34
      exact B50 x1 x2 x3 w0 hw
    · have hw := hw.2 c34
      refine v_iconst (v := -1) (pc2 := 49) S dX9_cord_48 (by decide) rfl ?_
      exact v_iret S ⟨(-1 : Int32), w0, rfl, rfl, hw⟩ dX9_cord_49
  refine v_iload_n (pc2 := 1) S 1 dX9_cord_0 rfl rfl rfl ?_
  refine v_callS (pc2 := 4) (As := [.int i0]) (rest := []) S (c_X9_isDoor l G i0 _ hw) mf_X9_isDoor u_858 u_859 rfl rfl ⟨rfl, rfl⟩ ⟨Nat.le_of_ble_eq_true rfl, Nat.le_of_ble_eq_true rfl⟩ ⟨Nat.le_of_ble_eq_true rfl, Nat.le_of_ble_eq_true rfl⟩ (Nat.le_of_ble_eq_true rfl) dX9_cord_1 (frM [] [] _) rfl (pb (fun r1 u2 br1 hw => ?_))
  refine v_to (wMod G a0 v0.1 v0.2.1 v0.2.2.1 v0.2.2.2.1 v0.2.2.2.2.1 v0.2.2.2.2.2.1 v0.2.2.2.2.2.2.1 v0.2.2.2.2.2.2.2.1 v0.2.2.2.2.2.2.2.2.1 v0.2.2.2.2.2.2.2.2.2.1 v0.2.2.2.2.2.2.2.2.2.2.1 v0.2.2.2.2.2.2.2.2.2.2.2.1 v0.2.2.2.2.2.2.2.2.2.2.2.2.1 v0.2.2.2.2.2.2.2.2.2.2.2.2.2.1 v0.2.2.2.2.2.2.2.2.2.2.2.2.2.2.1 v0.2.2.2.2.2.2.2.2.2.2.2.2.2.2.2.1 v0.2.2.2.2.2.2.2.2.2.2.2.2.2.2.2.2) 4 [(0, .ref a0.1), (1, .int i0), (2, .int i1), (3, .int i2)] _ [.int r1] rfl rfl rfl rfl ?_
  refine v_if_eq (pc2 := 7) (tgt := 22) S dX9_cord_4 (by decide) rfl (fun c3 => ?_) (fun c3 => ?_)
  · have hw := hw.1 c3
    refine v_iconst (v := -1) (pc2 := 23) S dX9_cord_22 (by decide) rfl ?_
    exact v_iret S ⟨(-1 : Int32), v0, rfl, rfl, hw⟩ dX9_cord_23
  · have hw := hw.2 c3
    refine v_iload_n (pc2 := 8) S 3 dX9_cord_7 rfl rfl rfl ?_
    refine v_iconst (v := 0) (pc2 := 9) S dX9_cord_8 (by decide) rfl ?_
    refine v_bipush (v := 10) (pc2 := 11) S dX9_cord_9 (by decide) rfl ?_
    refine v_callS (pc2 := 14) (As := [.int i2, .int (0 : Int32), .int (10 : Int32)]) (rest := []) S (c_X9_in l G i2 (0 : Int32) (10 : Int32) _ hw) mf_X9_in u_861 u_862 rfl rfl ⟨rfl, rfl⟩ ⟨Nat.le_of_ble_eq_true rfl, Nat.le_of_ble_eq_true rfl⟩ ⟨Nat.le_of_ble_eq_true rfl, Nat.le_of_ble_eq_true rfl⟩ (Nat.le_of_ble_eq_true rfl) dX9_cord_11 (frM [] [] _) rfl (pb (fun r4 u5 br4 hw => ?_))
    refine v_to (wMod G a0 v0.1 v0.2.1 v0.2.2.1 v0.2.2.2.1 v0.2.2.2.2.1 v0.2.2.2.2.2.1 v0.2.2.2.2.2.2.1 v0.2.2.2.2.2.2.2.1 v0.2.2.2.2.2.2.2.2.1 v0.2.2.2.2.2.2.2.2.2.1 v0.2.2.2.2.2.2.2.2.2.2.1 v0.2.2.2.2.2.2.2.2.2.2.2.1 v0.2.2.2.2.2.2.2.2.2.2.2.2.1 v0.2.2.2.2.2.2.2.2.2.2.2.2.2.1 v0.2.2.2.2.2.2.2.2.2.2.2.2.2.2.1 v0.2.2.2.2.2.2.2.2.2.2.2.2.2.2.2.1 v0.2.2.2.2.2.2.2.2.2.2.2.2.2.2.2.2) 14 [(0, .ref a0.1), (1, .int i0), (2, .int i1), (3, .int i2)] _ [.int r4] rfl rfl rfl rfl ?_
    refine v_if_eq (pc2 := 17) (tgt := 22) S dX9_cord_14 (by decide) rfl (fun c6 => ?_) (fun c6 => ?_)
    · have hw := hw.1 c6
      refine v_iconst (v := -1) (pc2 := 23) S dX9_cord_22 (by decide) rfl ?_
      exact v_iret S ⟨(-1 : Int32), v0, rfl, rfl, hw⟩ dX9_cord_23
    · have hw := hw.2 c6
      refine v_iload_n (pc2 := 18) S 3 dX9_cord_17 rfl rfl rfl ?_
      refine v_iload_n (pc2 := 19) S 1 dX9_cord_18 rfl rfl rfl ?_
      refine v_icmp_ne (pc2 := 22) (tgt := 24) S dX9_cord_19 (by decide) rfl (fun c7 => ?_) (fun c7 => ?_)
      · have hw := hw.1 c7
        refine v_iload_n (pc2 := 25) S 3 dX9_cord_24 rfl rfl rfl ?_
        refine v_bipush (v := 10) (pc2 := 27) S dX9_cord_25 (by decide) rfl ?_
        refine v_icmp_ge (pc2 := 30) (tgt := 50) S dX9_cord_27 (by decide) rfl (fun c8 => ?_) (fun c8 => ?_)
        · have hw := hw.1 c8
          exact B50 i0 i1 i2 v0 hw
        · have hw := hw.2 c8
          refine v_aload_n (pc2 := 31) S 0 dX9_cord_30 rfl rfl rfl ?_
          refine v_iload_n (pc2 := 32) S 1 dX9_cord_31 rfl rfl rfl ?_
          refine v_iload_n (pc2 := 33) S 2 dX9_cord_32 rfl rfl rfl ?_
          refine v_if_eq (pc2 := 36) (tgt := 40) S dX9_cord_33 (by decide) rfl (fun c31 => ?_) (fun c31 => ?_)
          · have hw := hw.1 c31
            refine v_iconst (v := 4) (pc2 := 41) S dX9_cord_40 (by decide) rfl ?_
            exact B41 i0 i1 i2 i0 (4 : Int32) v0 hw
          · have hw := hw.2 c31
            refine v_iconst (v := 3) (pc2 := 37) S dX9_cord_36 (by decide) rfl ?_
            refine v_goto (tgt := 41) S dX9_cord_37 (by decide) ?_
            exact B41 i0 i1 i2 i0 (3 : Int32) v0 hw
      · have hw := hw.2 c7
        refine v_iconst (v := -1) (pc2 := 23) S dX9_cord_22 (by decide) rfl ?_
        exact v_iret S ⟨(-1 : Int32), v0, rfl, rfl, hw⟩ dX9_cord_23
set_option maxHeartbeats 4000000 in
set_option maxRecDepth 100000 in
theorem c_X9_lesserHall (l : Launch) (G : GG) (a0 : ModA) (v0 : ModV) (i0 : Int32) (Q : Int32 → Prop) (hw : wp_X9_lesserHall v0 i0 Q) : Con l G yX9_lesserHall cX9_lesserHall 2 (some .int) { frames := 1, cells := 0, slots := 0, locals := 22 } [.ref a0.1, .int i0] (wMod G a0 v0.1 v0.2.1 v0.2.2.1 v0.2.2.2.1 v0.2.2.2.2.1 v0.2.2.2.2.2.1 v0.2.2.2.2.2.2.1 v0.2.2.2.2.2.2.2.1 v0.2.2.2.2.2.2.2.2.1 v0.2.2.2.2.2.2.2.2.2.1 v0.2.2.2.2.2.2.2.2.2.2.1 v0.2.2.2.2.2.2.2.2.2.2.2.1 v0.2.2.2.2.2.2.2.2.2.2.2.2.1 v0.2.2.2.2.2.2.2.2.2.2.2.2.2.1 v0.2.2.2.2.2.2.2.2.2.2.2.2.2.2.1 v0.2.2.2.2.2.2.2.2.2.2.2.2.2.2.2.1 v0.2.2.2.2.2.2.2.2.2.2.2.2.2.2.2.2) (PI (fun _ : Unit => wMod G a0 v0.1 v0.2.1 v0.2.2.1 v0.2.2.2.1 v0.2.2.2.2.1 v0.2.2.2.2.2.1 v0.2.2.2.2.2.2.1 v0.2.2.2.2.2.2.2.1 v0.2.2.2.2.2.2.2.2.1 v0.2.2.2.2.2.2.2.2.2.1 v0.2.2.2.2.2.2.2.2.2.2.1 v0.2.2.2.2.2.2.2.2.2.2.2.1 v0.2.2.2.2.2.2.2.2.2.2.2.2.1 v0.2.2.2.2.2.2.2.2.2.2.2.2.2.1 v0.2.2.2.2.2.2.2.2.2.2.2.2.2.2.1 v0.2.2.2.2.2.2.2.2.2.2.2.2.2.2.2.1 v0.2.2.2.2.2.2.2.2.2.2.2.2.2.2.2.2) (fun r _ => Q r)) 0 0 := by
  refine con_of RX9 rfl (by decide) [(0, .ref a0.1), (1, .int i0)] rfl (Nat.le_of_ble_eq_true rfl) ?_
  intro p e s m args below meth c S hname
  refine v_aload_n (pc2 := 1) S 0 dX9_lesserHall_0 rfl rfl rfl ?_
  refine v_iload_n (pc2 := 2) S 1 dX9_lesserHall_1 rfl rfl rfl ?_
  refine v_iconst (v := 1) (pc2 := 3) S dX9_lesserHall_2 (by decide) rfl ?_
  refine v_callV (pc2 := 6) (As := [.int i0, .int (1 : Int32)]) (rest := []) S (c_X9_of l G a0 v0 i0 (1 : Int32) _ hw) mf_X9_of u_842 u_844 u_21 0 9 rfl rfl rfl rfl ⟨rfl, rfl⟩ ⟨Nat.le_of_ble_eq_true rfl, Nat.le_of_ble_eq_true rfl⟩ ⟨Nat.le_of_ble_eq_true rfl, Nat.le_of_ble_eq_true rfl⟩ (Nat.le_of_ble_eq_true rfl) dX9_lesserHall_3 (frW _) rfl (pi (fun r1 u2 hw => ?_))
  refine v_to (wMod G a0 v0.1 v0.2.1 v0.2.2.1 v0.2.2.2.1 v0.2.2.2.2.1 v0.2.2.2.2.2.1 v0.2.2.2.2.2.2.1 v0.2.2.2.2.2.2.2.1 v0.2.2.2.2.2.2.2.2.1 v0.2.2.2.2.2.2.2.2.2.1 v0.2.2.2.2.2.2.2.2.2.2.1 v0.2.2.2.2.2.2.2.2.2.2.2.1 v0.2.2.2.2.2.2.2.2.2.2.2.2.1 v0.2.2.2.2.2.2.2.2.2.2.2.2.2.1 v0.2.2.2.2.2.2.2.2.2.2.2.2.2.2.1 v0.2.2.2.2.2.2.2.2.2.2.2.2.2.2.2.1 v0.2.2.2.2.2.2.2.2.2.2.2.2.2.2.2.2) 6 [(0, .ref a0.1), (1, .int i0)] _ [.int r1] rfl rfl rfl rfl ?_
  refine v_aload_n (pc2 := 7) S 0 dX9_lesserHall_6 rfl rfl rfl ?_
  refine v_iload_n (pc2 := 8) S 1 dX9_lesserHall_7 rfl rfl rfl ?_
  refine v_iconst (v := 2) (pc2 := 9) S dX9_lesserHall_8 (by decide) rfl ?_
  refine v_callV (pc2 := 12) (As := [.int i0, .int (2 : Int32)]) (rest := [.int r1]) S (c_X9_of l G a0 v0 i0 (2 : Int32) _ hw) mf_X9_of u_842 u_844 u_21 0 9 rfl rfl rfl rfl ⟨rfl, rfl⟩ ⟨Nat.le_of_ble_eq_true rfl, Nat.le_of_ble_eq_true rfl⟩ ⟨Nat.le_of_ble_eq_true rfl, Nat.le_of_ble_eq_true rfl⟩ (Nat.le_of_ble_eq_true rfl) dX9_lesserHall_9 (frW _) rfl (pi (fun r3 u4 hw => ?_))
  refine v_to (wMod G a0 v0.1 v0.2.1 v0.2.2.1 v0.2.2.2.1 v0.2.2.2.2.1 v0.2.2.2.2.2.1 v0.2.2.2.2.2.2.1 v0.2.2.2.2.2.2.2.1 v0.2.2.2.2.2.2.2.2.1 v0.2.2.2.2.2.2.2.2.2.1 v0.2.2.2.2.2.2.2.2.2.2.1 v0.2.2.2.2.2.2.2.2.2.2.2.1 v0.2.2.2.2.2.2.2.2.2.2.2.2.1 v0.2.2.2.2.2.2.2.2.2.2.2.2.2.1 v0.2.2.2.2.2.2.2.2.2.2.2.2.2.2.1 v0.2.2.2.2.2.2.2.2.2.2.2.2.2.2.2.1 v0.2.2.2.2.2.2.2.2.2.2.2.2.2.2.2.2) 12 [(0, .ref a0.1), (1, .int i0)] _ [.int r3, .int r1] rfl rfl rfl rfl ?_
  refine v_icmp_ge (pc2 := 15) (tgt := 24) S dX9_lesserHall_12 (by decide) rfl (fun c5 => ?_) (fun c5 => ?_)
  · have hw := hw.1 c5
    refine v_aload_n (pc2 := 25) S 0 dX9_lesserHall_24 rfl rfl rfl ?_
    refine v_iload_n (pc2 := 26) S 1 dX9_lesserHall_25 rfl rfl rfl ?_
    refine v_iconst (v := 2) (pc2 := 27) S dX9_lesserHall_26 (by decide) rfl ?_
    refine v_callV (pc2 := 30) (As := [.int i0, .int (2 : Int32)]) (rest := []) S (c_X9_of l G a0 v0 i0 (2 : Int32) _ hw) mf_X9_of u_842 u_844 u_21 0 9 rfl rfl rfl rfl ⟨rfl, rfl⟩ ⟨Nat.le_of_ble_eq_true rfl, Nat.le_of_ble_eq_true rfl⟩ ⟨Nat.le_of_ble_eq_true rfl, Nat.le_of_ble_eq_true rfl⟩ (Nat.le_of_ble_eq_true rfl) dX9_lesserHall_27 (frW _) rfl (pi (fun r6 u7 hw => ?_))
    refine v_to (wMod G a0 v0.1 v0.2.1 v0.2.2.1 v0.2.2.2.1 v0.2.2.2.2.1 v0.2.2.2.2.2.1 v0.2.2.2.2.2.2.1 v0.2.2.2.2.2.2.2.1 v0.2.2.2.2.2.2.2.2.1 v0.2.2.2.2.2.2.2.2.2.1 v0.2.2.2.2.2.2.2.2.2.2.1 v0.2.2.2.2.2.2.2.2.2.2.2.1 v0.2.2.2.2.2.2.2.2.2.2.2.2.1 v0.2.2.2.2.2.2.2.2.2.2.2.2.2.1 v0.2.2.2.2.2.2.2.2.2.2.2.2.2.2.1 v0.2.2.2.2.2.2.2.2.2.2.2.2.2.2.2.1 v0.2.2.2.2.2.2.2.2.2.2.2.2.2.2.2.2) 30 [(0, .ref a0.1), (1, .int i0)] _ [.int r6] rfl rfl rfl rfl ?_
    exact v_iret S ⟨r6, (), rfl, rfl, hw⟩ dX9_lesserHall_30
  · have hw := hw.2 c5
    refine v_aload_n (pc2 := 16) S 0 dX9_lesserHall_15 rfl rfl rfl ?_
    refine v_iload_n (pc2 := 17) S 1 dX9_lesserHall_16 rfl rfl rfl ?_
    refine v_iconst (v := 1) (pc2 := 18) S dX9_lesserHall_17 (by decide) rfl ?_
    refine v_callV (pc2 := 21) (As := [.int i0, .int (1 : Int32)]) (rest := []) S (c_X9_of l G a0 v0 i0 (1 : Int32) _ hw) mf_X9_of u_842 u_844 u_21 0 9 rfl rfl rfl rfl ⟨rfl, rfl⟩ ⟨Nat.le_of_ble_eq_true rfl, Nat.le_of_ble_eq_true rfl⟩ ⟨Nat.le_of_ble_eq_true rfl, Nat.le_of_ble_eq_true rfl⟩ (Nat.le_of_ble_eq_true rfl) dX9_lesserHall_18 (frW _) rfl (pi (fun r8 u9 hw => ?_))
    refine v_to (wMod G a0 v0.1 v0.2.1 v0.2.2.1 v0.2.2.2.1 v0.2.2.2.2.1 v0.2.2.2.2.2.1 v0.2.2.2.2.2.2.1 v0.2.2.2.2.2.2.2.1 v0.2.2.2.2.2.2.2.2.1 v0.2.2.2.2.2.2.2.2.2.1 v0.2.2.2.2.2.2.2.2.2.2.1 v0.2.2.2.2.2.2.2.2.2.2.2.1 v0.2.2.2.2.2.2.2.2.2.2.2.2.1 v0.2.2.2.2.2.2.2.2.2.2.2.2.2.1 v0.2.2.2.2.2.2.2.2.2.2.2.2.2.2.1 v0.2.2.2.2.2.2.2.2.2.2.2.2.2.2.2.1 v0.2.2.2.2.2.2.2.2.2.2.2.2.2.2.2.2) 21 [(0, .ref a0.1), (1, .int i0)] _ [.int r8] rfl rfl rfl rfl ?_
    refine v_goto (tgt := 30) S dX9_lesserHall_21 (by decide) ?_
    exact v_iret S ⟨r8, (), rfl, rfl, hw⟩ dX9_lesserHall_30
set_option maxHeartbeats 4000000 in
set_option maxRecDepth 100000 in
theorem c_X9_greaterHall (l : Launch) (G : GG) (a0 : ModA) (v0 : ModV) (i0 : Int32) (Q : Int32 → Prop) (hw : wp_X9_greaterHall v0 i0 Q) : Con l G yX9_greaterHall cX9_greaterHall 2 (some .int) { frames := 2, cells := 0, slots := 0, locals := 43 } [.ref a0.1, .int i0] (wMod G a0 v0.1 v0.2.1 v0.2.2.1 v0.2.2.2.1 v0.2.2.2.2.1 v0.2.2.2.2.2.1 v0.2.2.2.2.2.2.1 v0.2.2.2.2.2.2.2.1 v0.2.2.2.2.2.2.2.2.1 v0.2.2.2.2.2.2.2.2.2.1 v0.2.2.2.2.2.2.2.2.2.2.1 v0.2.2.2.2.2.2.2.2.2.2.2.1 v0.2.2.2.2.2.2.2.2.2.2.2.2.1 v0.2.2.2.2.2.2.2.2.2.2.2.2.2.1 v0.2.2.2.2.2.2.2.2.2.2.2.2.2.2.1 v0.2.2.2.2.2.2.2.2.2.2.2.2.2.2.2.1 v0.2.2.2.2.2.2.2.2.2.2.2.2.2.2.2.2) (PI (fun _ : Unit => wMod G a0 v0.1 v0.2.1 v0.2.2.1 v0.2.2.2.1 v0.2.2.2.2.1 v0.2.2.2.2.2.1 v0.2.2.2.2.2.2.1 v0.2.2.2.2.2.2.2.1 v0.2.2.2.2.2.2.2.2.1 v0.2.2.2.2.2.2.2.2.2.1 v0.2.2.2.2.2.2.2.2.2.2.1 v0.2.2.2.2.2.2.2.2.2.2.2.1 v0.2.2.2.2.2.2.2.2.2.2.2.2.1 v0.2.2.2.2.2.2.2.2.2.2.2.2.2.1 v0.2.2.2.2.2.2.2.2.2.2.2.2.2.2.1 v0.2.2.2.2.2.2.2.2.2.2.2.2.2.2.2.1 v0.2.2.2.2.2.2.2.2.2.2.2.2.2.2.2.2) (fun r _ => Q r)) 0 0 := by
  refine con_of RX9 rfl (by decide) [(0, .ref a0.1), (1, .int i0)] rfl (Nat.le_of_ble_eq_true rfl) ?_
  intro p e s m args below meth c S hname
  refine v_aload_n (pc2 := 1) S 0 dX9_greaterHall_0 rfl rfl rfl ?_
  refine v_iload_n (pc2 := 2) S 1 dX9_greaterHall_1 rfl rfl rfl ?_
  refine v_iconst (v := 1) (pc2 := 3) S dX9_greaterHall_2 (by decide) rfl ?_
  refine v_callV (pc2 := 6) (As := [.int i0, .int (1 : Int32)]) (rest := []) S (c_X9_of l G a0 v0 i0 (1 : Int32) _ hw) mf_X9_of u_842 u_844 u_21 0 9 rfl rfl rfl rfl ⟨rfl, rfl⟩ ⟨Nat.le_of_ble_eq_true rfl, Nat.le_of_ble_eq_true rfl⟩ ⟨Nat.le_of_ble_eq_true rfl, Nat.le_of_ble_eq_true rfl⟩ (Nat.le_of_ble_eq_true rfl) dX9_greaterHall_3 (frW _) rfl (pi (fun r1 u2 hw => ?_))
  refine v_to (wMod G a0 v0.1 v0.2.1 v0.2.2.1 v0.2.2.2.1 v0.2.2.2.2.1 v0.2.2.2.2.2.1 v0.2.2.2.2.2.2.1 v0.2.2.2.2.2.2.2.1 v0.2.2.2.2.2.2.2.2.1 v0.2.2.2.2.2.2.2.2.2.1 v0.2.2.2.2.2.2.2.2.2.2.1 v0.2.2.2.2.2.2.2.2.2.2.2.1 v0.2.2.2.2.2.2.2.2.2.2.2.2.1 v0.2.2.2.2.2.2.2.2.2.2.2.2.2.1 v0.2.2.2.2.2.2.2.2.2.2.2.2.2.2.1 v0.2.2.2.2.2.2.2.2.2.2.2.2.2.2.2.1 v0.2.2.2.2.2.2.2.2.2.2.2.2.2.2.2.2) 6 [(0, .ref a0.1), (1, .int i0)] _ [.int r1] rfl rfl rfl rfl ?_
  refine v_aload_n (pc2 := 7) S 0 dX9_greaterHall_6 rfl rfl rfl ?_
  refine v_iload_n (pc2 := 8) S 1 dX9_greaterHall_7 rfl rfl rfl ?_
  refine v_iconst (v := 2) (pc2 := 9) S dX9_greaterHall_8 (by decide) rfl ?_
  refine v_callV (pc2 := 12) (As := [.int i0, .int (2 : Int32)]) (rest := [.int r1]) S (c_X9_of l G a0 v0 i0 (2 : Int32) _ hw) mf_X9_of u_842 u_844 u_21 0 9 rfl rfl rfl rfl ⟨rfl, rfl⟩ ⟨Nat.le_of_ble_eq_true rfl, Nat.le_of_ble_eq_true rfl⟩ ⟨Nat.le_of_ble_eq_true rfl, Nat.le_of_ble_eq_true rfl⟩ (Nat.le_of_ble_eq_true rfl) dX9_greaterHall_9 (frW _) rfl (pi (fun r3 u4 hw => ?_))
  refine v_to (wMod G a0 v0.1 v0.2.1 v0.2.2.1 v0.2.2.2.1 v0.2.2.2.2.1 v0.2.2.2.2.2.1 v0.2.2.2.2.2.2.1 v0.2.2.2.2.2.2.2.1 v0.2.2.2.2.2.2.2.2.1 v0.2.2.2.2.2.2.2.2.2.1 v0.2.2.2.2.2.2.2.2.2.2.1 v0.2.2.2.2.2.2.2.2.2.2.2.1 v0.2.2.2.2.2.2.2.2.2.2.2.2.1 v0.2.2.2.2.2.2.2.2.2.2.2.2.2.1 v0.2.2.2.2.2.2.2.2.2.2.2.2.2.2.1 v0.2.2.2.2.2.2.2.2.2.2.2.2.2.2.2.1 v0.2.2.2.2.2.2.2.2.2.2.2.2.2.2.2.2) 12 [(0, .ref a0.1), (1, .int i0)] _ [.int r3, .int r1] rfl rfl rfl rfl ?_
  refine v_iadd (pc2 := 13) S dX9_greaterHall_12 rfl ?_
  refine v_aload_n (pc2 := 14) S 0 dX9_greaterHall_13 rfl rfl rfl ?_
  refine v_iload_n (pc2 := 15) S 1 dX9_greaterHall_14 rfl rfl rfl ?_
  refine v_callV (pc2 := 18) (As := [.int i0]) (rest := [.int (r1 + r3)]) S (c_X9_lesserHall l G a0 v0 i0 _ hw) mf_X9_lesserHall u_970 u_972 u_42 0 9 rfl rfl rfl rfl ⟨rfl, rfl⟩ ⟨Nat.le_of_ble_eq_true rfl, Nat.le_of_ble_eq_true rfl⟩ ⟨Nat.le_of_ble_eq_true rfl, Nat.le_of_ble_eq_true rfl⟩ (Nat.le_of_ble_eq_true rfl) dX9_greaterHall_15 (frW _) rfl (pi (fun r5 u6 hw => ?_))
  refine v_to (wMod G a0 v0.1 v0.2.1 v0.2.2.1 v0.2.2.2.1 v0.2.2.2.2.1 v0.2.2.2.2.2.1 v0.2.2.2.2.2.2.1 v0.2.2.2.2.2.2.2.1 v0.2.2.2.2.2.2.2.2.1 v0.2.2.2.2.2.2.2.2.2.1 v0.2.2.2.2.2.2.2.2.2.2.1 v0.2.2.2.2.2.2.2.2.2.2.2.1 v0.2.2.2.2.2.2.2.2.2.2.2.2.1 v0.2.2.2.2.2.2.2.2.2.2.2.2.2.1 v0.2.2.2.2.2.2.2.2.2.2.2.2.2.2.1 v0.2.2.2.2.2.2.2.2.2.2.2.2.2.2.2.1 v0.2.2.2.2.2.2.2.2.2.2.2.2.2.2.2.2) 18 [(0, .ref a0.1), (1, .int i0)] _ [.int r5, .int (r1 + r3)] rfl rfl rfl rfl ?_
  refine v_isub (pc2 := 19) S dX9_greaterHall_18 rfl ?_
  exact v_iret S ⟨(r1 + r3) - r5, (), rfl, rfl, hw⟩ dX9_greaterHall_19
set_option maxHeartbeats 4000000 in
set_option maxRecDepth 100000 in
theorem c_X9_join (l : Launch) (G : GG) (a0 : ModA) (v0 : ModV) (i0 : Int32) (i1 : Int32) (i2 : Int32) (Q : Int32 → ModV → Prop) (hw : wp_X9_join v0 i0 i1 i2 Q) : Con l G yX9_join cX9_join 5 (some .int) { frames := 3, cells := 0, slots := 0, locals := 64 } [.ref a0.1, .int i0, .int i1, .int i2] (wMod G a0 v0.1 v0.2.1 v0.2.2.1 v0.2.2.2.1 v0.2.2.2.2.1 v0.2.2.2.2.2.1 v0.2.2.2.2.2.2.1 v0.2.2.2.2.2.2.2.1 v0.2.2.2.2.2.2.2.2.1 v0.2.2.2.2.2.2.2.2.2.1 v0.2.2.2.2.2.2.2.2.2.2.1 v0.2.2.2.2.2.2.2.2.2.2.2.1 v0.2.2.2.2.2.2.2.2.2.2.2.2.1 v0.2.2.2.2.2.2.2.2.2.2.2.2.2.1 v0.2.2.2.2.2.2.2.2.2.2.2.2.2.2.1 v0.2.2.2.2.2.2.2.2.2.2.2.2.2.2.2.1 v0.2.2.2.2.2.2.2.2.2.2.2.2.2.2.2.2) (PI (fun u : ModV => wMod G a0 u.1 u.2.1 u.2.2.1 u.2.2.2.1 u.2.2.2.2.1 u.2.2.2.2.2.1 u.2.2.2.2.2.2.1 u.2.2.2.2.2.2.2.1 u.2.2.2.2.2.2.2.2.1 u.2.2.2.2.2.2.2.2.2.1 u.2.2.2.2.2.2.2.2.2.2.1 u.2.2.2.2.2.2.2.2.2.2.2.1 u.2.2.2.2.2.2.2.2.2.2.2.2.1 u.2.2.2.2.2.2.2.2.2.2.2.2.2.1 u.2.2.2.2.2.2.2.2.2.2.2.2.2.2.1 u.2.2.2.2.2.2.2.2.2.2.2.2.2.2.2.1 u.2.2.2.2.2.2.2.2.2.2.2.2.2.2.2.2) Q) 0 0 := by
  refine con_of RX9 rfl (by decide) [(0, .ref a0.1), (1, .int i0), (2, .int i1), (3, .int i2)] rfl (Nat.le_of_ble_eq_true rfl) ?_
  intro p e s m args below meth c S hname
  refine v_iload_n (pc2 := 1) S 1 dX9_join_0 rfl rfl rfl ?_
  refine v_callS (pc2 := 4) (As := [.int i0]) (rest := []) S (c_X9_isDoor l G i0 _ hw) mf_X9_isDoor u_858 u_859 rfl rfl ⟨rfl, rfl⟩ ⟨Nat.le_of_ble_eq_true rfl, Nat.le_of_ble_eq_true rfl⟩ ⟨Nat.le_of_ble_eq_true rfl, Nat.le_of_ble_eq_true rfl⟩ (Nat.le_of_ble_eq_true rfl) dX9_join_1 (frM [] [] _) rfl (pb (fun r1 u2 br1 hw => ?_))
  refine v_to (wMod G a0 v0.1 v0.2.1 v0.2.2.1 v0.2.2.2.1 v0.2.2.2.2.1 v0.2.2.2.2.2.1 v0.2.2.2.2.2.2.1 v0.2.2.2.2.2.2.2.1 v0.2.2.2.2.2.2.2.2.1 v0.2.2.2.2.2.2.2.2.2.1 v0.2.2.2.2.2.2.2.2.2.2.1 v0.2.2.2.2.2.2.2.2.2.2.2.1 v0.2.2.2.2.2.2.2.2.2.2.2.2.1 v0.2.2.2.2.2.2.2.2.2.2.2.2.2.1 v0.2.2.2.2.2.2.2.2.2.2.2.2.2.2.1 v0.2.2.2.2.2.2.2.2.2.2.2.2.2.2.2.1 v0.2.2.2.2.2.2.2.2.2.2.2.2.2.2.2.2) 4 [(0, .ref a0.1), (1, .int i0), (2, .int i1), (3, .int i2)] _ [.int r1] rfl rfl rfl rfl ?_
  refine v_if_eq (pc2 := 7) (tgt := 26) S dX9_join_4 (by decide) rfl (fun c3 => ?_) (fun c3 => ?_)
  · have hw := hw.1 c3
    refine v_iconst (v := -1) (pc2 := 27) S dX9_join_26 (by decide) rfl ?_
    exact v_iret S ⟨(-1 : Int32), v0, rfl, rfl, hw⟩ dX9_join_27
  · have hw := hw.2 c3
    refine v_iload_n (pc2 := 8) S 2 dX9_join_7 rfl rfl rfl ?_
    refine v_callS (pc2 := 11) (As := [.int i1]) (rest := []) S (c_X9_isHall l G i1 _ hw) mf_X9_isHall u_967 u_968 rfl rfl ⟨rfl, rfl⟩ ⟨Nat.le_of_ble_eq_true rfl, Nat.le_of_ble_eq_true rfl⟩ ⟨Nat.le_of_ble_eq_true rfl, Nat.le_of_ble_eq_true rfl⟩ (Nat.le_of_ble_eq_true rfl) dX9_join_8 (frM [] [] _) rfl (pb (fun r4 u5 br4 hw => ?_))
    refine v_to (wMod G a0 v0.1 v0.2.1 v0.2.2.1 v0.2.2.2.1 v0.2.2.2.2.1 v0.2.2.2.2.2.1 v0.2.2.2.2.2.2.1 v0.2.2.2.2.2.2.2.1 v0.2.2.2.2.2.2.2.2.1 v0.2.2.2.2.2.2.2.2.2.1 v0.2.2.2.2.2.2.2.2.2.2.1 v0.2.2.2.2.2.2.2.2.2.2.2.1 v0.2.2.2.2.2.2.2.2.2.2.2.2.1 v0.2.2.2.2.2.2.2.2.2.2.2.2.2.1 v0.2.2.2.2.2.2.2.2.2.2.2.2.2.2.1 v0.2.2.2.2.2.2.2.2.2.2.2.2.2.2.2.1 v0.2.2.2.2.2.2.2.2.2.2.2.2.2.2.2.2) 11 [(0, .ref a0.1), (1, .int i0), (2, .int i1), (3, .int i2)] _ [.int r4] rfl rfl rfl rfl ?_
    refine v_if_eq (pc2 := 14) (tgt := 26) S dX9_join_11 (by decide) rfl (fun c6 => ?_) (fun c6 => ?_)
    · have hw := hw.1 c6
      refine v_iconst (v := -1) (pc2 := 27) S dX9_join_26 (by decide) rfl ?_
      exact v_iret S ⟨(-1 : Int32), v0, rfl, rfl, hw⟩ dX9_join_27
    · have hw := hw.2 c6
      refine v_iload_n (pc2 := 15) S 3 dX9_join_14 rfl rfl rfl ?_
      refine v_callS (pc2 := 18) (As := [.int i2]) (rest := []) S (c_X9_isHall l G i2 _ hw) mf_X9_isHall u_967 u_968 rfl rfl ⟨rfl, rfl⟩ ⟨Nat.le_of_ble_eq_true rfl, Nat.le_of_ble_eq_true rfl⟩ ⟨Nat.le_of_ble_eq_true rfl, Nat.le_of_ble_eq_true rfl⟩ (Nat.le_of_ble_eq_true rfl) dX9_join_15 (frM [] [] _) rfl (pb (fun r7 u8 br7 hw => ?_))
      refine v_to (wMod G a0 v0.1 v0.2.1 v0.2.2.1 v0.2.2.2.1 v0.2.2.2.2.1 v0.2.2.2.2.2.1 v0.2.2.2.2.2.2.1 v0.2.2.2.2.2.2.2.1 v0.2.2.2.2.2.2.2.2.1 v0.2.2.2.2.2.2.2.2.2.1 v0.2.2.2.2.2.2.2.2.2.2.1 v0.2.2.2.2.2.2.2.2.2.2.2.1 v0.2.2.2.2.2.2.2.2.2.2.2.2.1 v0.2.2.2.2.2.2.2.2.2.2.2.2.2.1 v0.2.2.2.2.2.2.2.2.2.2.2.2.2.2.1 v0.2.2.2.2.2.2.2.2.2.2.2.2.2.2.2.1 v0.2.2.2.2.2.2.2.2.2.2.2.2.2.2.2.2) 18 [(0, .ref a0.1), (1, .int i0), (2, .int i1), (3, .int i2)] _ [.int r7] rfl rfl rfl rfl ?_
      refine v_if_eq (pc2 := 21) (tgt := 26) S dX9_join_18 (by decide) rfl (fun c9 => ?_) (fun c9 => ?_)
      · have hw := hw.1 c9
        refine v_iconst (v := -1) (pc2 := 27) S dX9_join_26 (by decide) rfl ?_
        exact v_iret S ⟨(-1 : Int32), v0, rfl, rfl, hw⟩ dX9_join_27
      · have hw := hw.2 c9
        refine v_iload_n (pc2 := 22) S 2 dX9_join_21 rfl rfl rfl ?_
        refine v_iload_n (pc2 := 23) S 3 dX9_join_22 rfl rfl rfl ?_
        refine v_icmp_ne (pc2 := 26) (tgt := 28) S dX9_join_23 (by decide) rfl (fun c10 => ?_) (fun c10 => ?_)
        · have hw := hw.1 c10
          refine v_aload_n (pc2 := 29) S 0 dX9_join_28 rfl rfl rfl ?_
          refine v_iload_n (pc2 := 30) S 1 dX9_join_29 rfl rfl rfl ?_
          refine v_callV (pc2 := 33) (As := [.int i0]) (rest := []) S (c_X9_isOpen l G a0 v0 i0 _ hw) mf_X9_isOpen u_872 u_874 u_25 0 9 rfl rfl rfl rfl ⟨rfl, rfl⟩ ⟨Nat.le_of_ble_eq_true rfl, Nat.le_of_ble_eq_true rfl⟩ ⟨Nat.le_of_ble_eq_true rfl, Nat.le_of_ble_eq_true rfl⟩ (Nat.le_of_ble_eq_true rfl) dX9_join_30 (frW _) rfl (pb (fun r11 u12 br11 hw => ?_))
          refine v_to (wMod G a0 v0.1 v0.2.1 v0.2.2.1 v0.2.2.2.1 v0.2.2.2.2.1 v0.2.2.2.2.2.1 v0.2.2.2.2.2.2.1 v0.2.2.2.2.2.2.2.1 v0.2.2.2.2.2.2.2.2.1 v0.2.2.2.2.2.2.2.2.2.1 v0.2.2.2.2.2.2.2.2.2.2.1 v0.2.2.2.2.2.2.2.2.2.2.2.1 v0.2.2.2.2.2.2.2.2.2.2.2.2.1 v0.2.2.2.2.2.2.2.2.2.2.2.2.2.1 v0.2.2.2.2.2.2.2.2.2.2.2.2.2.2.1 v0.2.2.2.2.2.2.2.2.2.2.2.2.2.2.2.1 v0.2.2.2.2.2.2.2.2.2.2.2.2.2.2.2.2) 33 [(0, .ref a0.1), (1, .int i0), (2, .int i1), (3, .int i2)] _ [.int r11] rfl rfl rfl rfl ?_
          refine v_if_eq (pc2 := 36) (tgt := 39) S dX9_join_33 (by decide) rfl (fun c13 => ?_) (fun c13 => ?_)
          · have hw := hw.1 c13
            refine v_aload_n (pc2 := 40) S 0 dX9_join_39 rfl rfl rfl ?_
            refine v_callV (pc2 := 43) (As := []) (rest := []) S (c_X9_record l G a0 v0 _ hw) mf_X9_record u_850 u_852 u_22 0 9 rfl rfl rfl rfl ⟨rfl, rfl⟩ ⟨Nat.le_of_ble_eq_true rfl, Nat.le_of_ble_eq_true rfl⟩ ⟨Nat.le_of_ble_eq_true rfl, Nat.le_of_ble_eq_true rfl⟩ (Nat.le_of_ble_eq_true rfl) dX9_join_40 (frW _) rfl (pv (fun u15 hw => ?_))
            refine v_to (wMod G a0 u15.1 u15.2.1 u15.2.2.1 u15.2.2.2.1 u15.2.2.2.2.1 u15.2.2.2.2.2.1 u15.2.2.2.2.2.2.1 u15.2.2.2.2.2.2.2.1 u15.2.2.2.2.2.2.2.2.1 u15.2.2.2.2.2.2.2.2.2.1 u15.2.2.2.2.2.2.2.2.2.2.1 u15.2.2.2.2.2.2.2.2.2.2.2.1 u15.2.2.2.2.2.2.2.2.2.2.2.2.1 u15.2.2.2.2.2.2.2.2.2.2.2.2.2.1 u15.2.2.2.2.2.2.2.2.2.2.2.2.2.2.1 u15.2.2.2.2.2.2.2.2.2.2.2.2.2.2.2.1 u15.2.2.2.2.2.2.2.2.2.2.2.2.2.2.2.2) 43 [(0, .ref a0.1), (1, .int i0), (2, .int i1), (3, .int i2)] _ [] rfl rfl rfl rfl ?_
            refine v_bipush (v := 10) (pc2 := 45) S dX9_join_43 (by decide) rfl ?_
            refine v_aload_n (pc2 := 46) S 0 dX9_join_45 rfl rfl rfl ?_
            refine v_iload_n (pc2 := 47) S 1 dX9_join_46 rfl rfl rfl ?_
            refine v_callV (pc2 := 50) (As := [.int i0]) (rest := [.int (10 : Int32)]) S (c_X9_lesserHall l G a0 u15 i0 _ hw) mf_X9_lesserHall u_970 u_972 u_42 0 9 rfl rfl rfl rfl ⟨rfl, rfl⟩ ⟨Nat.le_of_ble_eq_true rfl, Nat.le_of_ble_eq_true rfl⟩ ⟨Nat.le_of_ble_eq_true rfl, Nat.le_of_ble_eq_true rfl⟩ (Nat.le_of_ble_eq_true rfl) dX9_join_47 (frW _) rfl (pi (fun r16 u17 hw => ?_))
            refine v_to (wMod G a0 u15.1 u15.2.1 u15.2.2.1 u15.2.2.2.1 u15.2.2.2.2.1 u15.2.2.2.2.2.1 u15.2.2.2.2.2.2.1 u15.2.2.2.2.2.2.2.1 u15.2.2.2.2.2.2.2.2.1 u15.2.2.2.2.2.2.2.2.2.1 u15.2.2.2.2.2.2.2.2.2.2.1 u15.2.2.2.2.2.2.2.2.2.2.2.1 u15.2.2.2.2.2.2.2.2.2.2.2.2.1 u15.2.2.2.2.2.2.2.2.2.2.2.2.2.1 u15.2.2.2.2.2.2.2.2.2.2.2.2.2.2.1 u15.2.2.2.2.2.2.2.2.2.2.2.2.2.2.2.1 u15.2.2.2.2.2.2.2.2.2.2.2.2.2.2.2.2) 50 [(0, .ref a0.1), (1, .int i0), (2, .int i1), (3, .int i2)] _ [.int r16, .int (10 : Int32)] rfl rfl rfl rfl ?_
            refine v_imul (pc2 := 51) S dX9_join_50 rfl ?_
            refine v_aload_n (pc2 := 52) S 0 dX9_join_51 rfl rfl rfl ?_
            refine v_iload_n (pc2 := 53) S 1 dX9_join_52 rfl rfl rfl ?_
            refine v_callV (pc2 := 56) (As := [.int i0]) (rest := [.int ((10 : Int32) * r16)]) S (c_X9_greaterHall l G a0 u15 i0 _ hw) mf_X9_greaterHall u_974 u_976 u_43 0 9 rfl rfl rfl rfl ⟨rfl, rfl⟩ ⟨Nat.le_of_ble_eq_true rfl, Nat.le_of_ble_eq_true rfl⟩ ⟨Nat.le_of_ble_eq_true rfl, Nat.le_of_ble_eq_true rfl⟩ (Nat.le_of_ble_eq_true rfl) dX9_join_53 (frW _) rfl (pi (fun r18 u19 hw => ?_))
            refine v_to (wMod G a0 u15.1 u15.2.1 u15.2.2.1 u15.2.2.2.1 u15.2.2.2.2.1 u15.2.2.2.2.2.1 u15.2.2.2.2.2.2.1 u15.2.2.2.2.2.2.2.1 u15.2.2.2.2.2.2.2.2.1 u15.2.2.2.2.2.2.2.2.2.1 u15.2.2.2.2.2.2.2.2.2.2.1 u15.2.2.2.2.2.2.2.2.2.2.2.1 u15.2.2.2.2.2.2.2.2.2.2.2.2.1 u15.2.2.2.2.2.2.2.2.2.2.2.2.2.1 u15.2.2.2.2.2.2.2.2.2.2.2.2.2.2.1 u15.2.2.2.2.2.2.2.2.2.2.2.2.2.2.2.1 u15.2.2.2.2.2.2.2.2.2.2.2.2.2.2.2.2) 56 [(0, .ref a0.1), (1, .int i0), (2, .int i1), (3, .int i2)] _ [.int r18, .int ((10 : Int32) * r16)] rfl rfl rfl rfl ?_
            refine v_iadd (pc2 := 57) S dX9_join_56 rfl ?_
            refine v_nm (fun z20 ez20 => ?_)
            have hw := hw z20 ez20
            refine v_istore (lv2 := [(0, .ref a0.1), (1, .int i0), (2, .int i1), (3, .int i2), (4, .int z20)]) (pc2 := 59) S dX9_join_57 (by decide) [1, 2, 3, 4, 0] rfl rfl ?_
            refine v_aload_n (pc2 := 60) S 0 dX9_join_59 rfl rfl rfl ?_
            refine v_iload_n (pc2 := 61) S 1 dX9_join_60 rfl rfl rfl ?_
            refine v_iconst (v := 1) (pc2 := 62) S dX9_join_61 (by decide) rfl ?_
            refine v_iload_n (pc2 := 63) S 2 dX9_join_62 rfl rfl rfl ?_
            refine v_callV (pc2 := 66) (As := [.int i0, .int (1 : Int32), .int i1]) (rest := []) S (c_X9_lay l G a0 u15 i0 (1 : Int32) i1 _ hw) mf_X9_lay u_771 u_773 u_19 0 9 rfl rfl rfl rfl ⟨rfl, rfl⟩ ⟨Nat.le_of_ble_eq_true rfl, Nat.le_of_ble_eq_true rfl⟩ ⟨Nat.le_of_ble_eq_true rfl, Nat.le_of_ble_eq_true rfl⟩ (Nat.le_of_ble_eq_true rfl) dX9_join_63 (frW _) rfl (pv (fun u22 hw => ?_))
            refine v_to (wMod G a0 u22.1 u22.2.1 u22.2.2.1 u22.2.2.2.1 u22.2.2.2.2.1 u22.2.2.2.2.2.1 u22.2.2.2.2.2.2.1 u22.2.2.2.2.2.2.2.1 u22.2.2.2.2.2.2.2.2.1 u22.2.2.2.2.2.2.2.2.2.1 u22.2.2.2.2.2.2.2.2.2.2.1 u22.2.2.2.2.2.2.2.2.2.2.2.1 u22.2.2.2.2.2.2.2.2.2.2.2.2.1 u22.2.2.2.2.2.2.2.2.2.2.2.2.2.1 u22.2.2.2.2.2.2.2.2.2.2.2.2.2.2.1 u22.2.2.2.2.2.2.2.2.2.2.2.2.2.2.2.1 u22.2.2.2.2.2.2.2.2.2.2.2.2.2.2.2.2) 66 [(0, .ref a0.1), (1, .int i0), (2, .int i1), (3, .int i2), (4, .int z20)] _ [] rfl rfl rfl rfl ?_
            refine v_aload_n (pc2 := 67) S 0 dX9_join_66 rfl rfl rfl ?_
            refine v_iload_n (pc2 := 68) S 1 dX9_join_67 rfl rfl rfl ?_
            refine v_iconst (v := 2) (pc2 := 69) S dX9_join_68 (by decide) rfl ?_
            refine v_iload_n (pc2 := 70) S 3 dX9_join_69 rfl rfl rfl ?_
            refine v_callV (pc2 := 73) (As := [.int i0, .int (2 : Int32), .int i2]) (rest := []) S (c_X9_lay l G a0 u22 i0 (2 : Int32) i2 _ hw) mf_X9_lay u_771 u_773 u_19 0 9 rfl rfl rfl rfl ⟨rfl, rfl⟩ ⟨Nat.le_of_ble_eq_true rfl, Nat.le_of_ble_eq_true rfl⟩ ⟨Nat.le_of_ble_eq_true rfl, Nat.le_of_ble_eq_true rfl⟩ (Nat.le_of_ble_eq_true rfl) dX9_join_70 (frW _) rfl (pv (fun u24 hw => ?_))
            refine v_to (wMod G a0 u24.1 u24.2.1 u24.2.2.1 u24.2.2.2.1 u24.2.2.2.2.1 u24.2.2.2.2.2.1 u24.2.2.2.2.2.2.1 u24.2.2.2.2.2.2.2.1 u24.2.2.2.2.2.2.2.2.1 u24.2.2.2.2.2.2.2.2.2.1 u24.2.2.2.2.2.2.2.2.2.2.1 u24.2.2.2.2.2.2.2.2.2.2.2.1 u24.2.2.2.2.2.2.2.2.2.2.2.2.1 u24.2.2.2.2.2.2.2.2.2.2.2.2.2.1 u24.2.2.2.2.2.2.2.2.2.2.2.2.2.2.1 u24.2.2.2.2.2.2.2.2.2.2.2.2.2.2.2.1 u24.2.2.2.2.2.2.2.2.2.2.2.2.2.2.2.2) 73 [(0, .ref a0.1), (1, .int i0), (2, .int i1), (3, .int i2), (4, .int z20)] _ [] rfl rfl rfl rfl ?_
            refine v_iload (pc2 := 75) S 4 dX9_join_73 rfl rfl ?_
            exact v_iret S ⟨z20, u24, rfl, rfl, hw⟩ dX9_join_75
          · have hw := hw.2 c13
            refine v_bipush (v := -2) (pc2 := 38) S dX9_join_36 (by decide) rfl ?_
            exact v_iret S ⟨(-2 : Int32), v0, rfl, rfl, hw⟩ dX9_join_38
        · have hw := hw.2 c10
          refine v_iconst (v := -1) (pc2 := 27) S dX9_join_26 (by decide) rfl ?_
          exact v_iret S ⟨(-1 : Int32), v0, rfl, rfl, hw⟩ dX9_join_27
set_option maxHeartbeats 4000000 in
set_option maxRecDepth 100000 in
theorem c_X9_keys (l : Launch) (G : GG) (a0 : ModA) (v0 : ModV) (i0 : Int32) (i1 : Int32) (Q : Int32 → ModV → Prop) (hw : wp_X9_keys v0 i0 i1 Q) : Con l G yX9_keys cX9_keys 4 (some .int) { frames := 2, cells := 0, slots := 0, locals := 45 } [.ref a0.1, .int i0, .int i1] (wMod G a0 v0.1 v0.2.1 v0.2.2.1 v0.2.2.2.1 v0.2.2.2.2.1 v0.2.2.2.2.2.1 v0.2.2.2.2.2.2.1 v0.2.2.2.2.2.2.2.1 v0.2.2.2.2.2.2.2.2.1 v0.2.2.2.2.2.2.2.2.2.1 v0.2.2.2.2.2.2.2.2.2.2.1 v0.2.2.2.2.2.2.2.2.2.2.2.1 v0.2.2.2.2.2.2.2.2.2.2.2.2.1 v0.2.2.2.2.2.2.2.2.2.2.2.2.2.1 v0.2.2.2.2.2.2.2.2.2.2.2.2.2.2.1 v0.2.2.2.2.2.2.2.2.2.2.2.2.2.2.2.1 v0.2.2.2.2.2.2.2.2.2.2.2.2.2.2.2.2) (PI (fun u : ModV => wMod G a0 u.1 u.2.1 u.2.2.1 u.2.2.2.1 u.2.2.2.2.1 u.2.2.2.2.2.1 u.2.2.2.2.2.2.1 u.2.2.2.2.2.2.2.1 u.2.2.2.2.2.2.2.2.1 u.2.2.2.2.2.2.2.2.2.1 u.2.2.2.2.2.2.2.2.2.2.1 u.2.2.2.2.2.2.2.2.2.2.2.1 u.2.2.2.2.2.2.2.2.2.2.2.2.1 u.2.2.2.2.2.2.2.2.2.2.2.2.2.1 u.2.2.2.2.2.2.2.2.2.2.2.2.2.2.1 u.2.2.2.2.2.2.2.2.2.2.2.2.2.2.2.1 u.2.2.2.2.2.2.2.2.2.2.2.2.2.2.2.2) Q) 0 0 := by
  refine con_of RX9 rfl (by decide) [(0, .ref a0.1), (1, .int i0), (2, .int i1)] rfl (Nat.le_of_ble_eq_true rfl) ?_
  intro p e s m args below meth c S hname
  refine v_iload_n (pc2 := 1) S 1 dX9_keys_0 rfl rfl rfl ?_
  refine v_callS (pc2 := 4) (As := [.int i0]) (rest := []) S (c_X9_isGuest l G i0 _ hw) mf_X9_isGuest u_920 u_921 rfl rfl ⟨rfl, rfl⟩ ⟨Nat.le_of_ble_eq_true rfl, Nat.le_of_ble_eq_true rfl⟩ ⟨Nat.le_of_ble_eq_true rfl, Nat.le_of_ble_eq_true rfl⟩ (Nat.le_of_ble_eq_true rfl) dX9_keys_1 (frM [] [] _) rfl (pb (fun r1 u2 br1 hw => ?_))
  refine v_to (wMod G a0 v0.1 v0.2.1 v0.2.2.1 v0.2.2.2.1 v0.2.2.2.2.1 v0.2.2.2.2.2.1 v0.2.2.2.2.2.2.1 v0.2.2.2.2.2.2.2.1 v0.2.2.2.2.2.2.2.2.1 v0.2.2.2.2.2.2.2.2.2.1 v0.2.2.2.2.2.2.2.2.2.2.1 v0.2.2.2.2.2.2.2.2.2.2.2.1 v0.2.2.2.2.2.2.2.2.2.2.2.2.1 v0.2.2.2.2.2.2.2.2.2.2.2.2.2.1 v0.2.2.2.2.2.2.2.2.2.2.2.2.2.2.1 v0.2.2.2.2.2.2.2.2.2.2.2.2.2.2.2.1 v0.2.2.2.2.2.2.2.2.2.2.2.2.2.2.2.2) 4 [(0, .ref a0.1), (1, .int i0), (2, .int i1)] _ [.int r1] rfl rfl rfl rfl ?_
  refine v_if_eq (pc2 := 7) (tgt := 18) S dX9_keys_4 (by decide) rfl (fun c3 => ?_) (fun c3 => ?_)
  · have hw := hw.1 c3
    refine v_iconst (v := -1) (pc2 := 19) S dX9_keys_18 (by decide) rfl ?_
    exact v_iret S ⟨(-1 : Int32), v0, rfl, rfl, hw⟩ dX9_keys_19
  · have hw := hw.2 c3
    refine v_iload_n (pc2 := 8) S 2 dX9_keys_7 rfl rfl rfl ?_
    refine v_iconst (v := 0) (pc2 := 9) S dX9_keys_8 (by decide) rfl ?_
    refine v_sipush (v := 1023) (pc2 := 12) S dX9_keys_9 (by decide) rfl ?_
    refine v_callS (pc2 := 15) (As := [.int i1, .int (0 : Int32), .int (1023 : Int32)]) (rest := []) S (c_X9_in l G i1 (0 : Int32) (1023 : Int32) _ hw) mf_X9_in u_861 u_862 rfl rfl ⟨rfl, rfl⟩ ⟨Nat.le_of_ble_eq_true rfl, Nat.le_of_ble_eq_true rfl⟩ ⟨Nat.le_of_ble_eq_true rfl, Nat.le_of_ble_eq_true rfl⟩ (Nat.le_of_ble_eq_true rfl) dX9_keys_12 (frM [] [] _) rfl (pb (fun r4 u5 br4 hw => ?_))
    refine v_to (wMod G a0 v0.1 v0.2.1 v0.2.2.1 v0.2.2.2.1 v0.2.2.2.2.1 v0.2.2.2.2.2.1 v0.2.2.2.2.2.2.1 v0.2.2.2.2.2.2.2.1 v0.2.2.2.2.2.2.2.2.1 v0.2.2.2.2.2.2.2.2.2.1 v0.2.2.2.2.2.2.2.2.2.2.1 v0.2.2.2.2.2.2.2.2.2.2.2.1 v0.2.2.2.2.2.2.2.2.2.2.2.2.1 v0.2.2.2.2.2.2.2.2.2.2.2.2.2.1 v0.2.2.2.2.2.2.2.2.2.2.2.2.2.2.1 v0.2.2.2.2.2.2.2.2.2.2.2.2.2.2.2.1 v0.2.2.2.2.2.2.2.2.2.2.2.2.2.2.2.2) 15 [(0, .ref a0.1), (1, .int i0), (2, .int i1)] _ [.int r4] rfl rfl rfl rfl ?_
    refine v_if_ne (pc2 := 18) (tgt := 20) S dX9_keys_15 (by decide) rfl (fun c6 => ?_) (fun c6 => ?_)
    · have hw := hw.1 c6
      refine v_aload_n (pc2 := 21) S 0 dX9_keys_20 rfl rfl rfl ?_
      refine v_callV (pc2 := 24) (As := []) (rest := []) S (c_X9_record l G a0 v0 _ hw) mf_X9_record u_850 u_852 u_22 0 9 rfl rfl rfl rfl ⟨rfl, rfl⟩ ⟨Nat.le_of_ble_eq_true rfl, Nat.le_of_ble_eq_true rfl⟩ ⟨Nat.le_of_ble_eq_true rfl, Nat.le_of_ble_eq_true rfl⟩ (Nat.le_of_ble_eq_true rfl) dX9_keys_21 (frW _) rfl (pv (fun u8 hw => ?_))
      refine v_to (wMod G a0 u8.1 u8.2.1 u8.2.2.1 u8.2.2.2.1 u8.2.2.2.2.1 u8.2.2.2.2.2.1 u8.2.2.2.2.2.2.1 u8.2.2.2.2.2.2.2.1 u8.2.2.2.2.2.2.2.2.1 u8.2.2.2.2.2.2.2.2.2.1 u8.2.2.2.2.2.2.2.2.2.2.1 u8.2.2.2.2.2.2.2.2.2.2.2.1 u8.2.2.2.2.2.2.2.2.2.2.2.2.1 u8.2.2.2.2.2.2.2.2.2.2.2.2.2.1 u8.2.2.2.2.2.2.2.2.2.2.2.2.2.2.1 u8.2.2.2.2.2.2.2.2.2.2.2.2.2.2.2.1 u8.2.2.2.2.2.2.2.2.2.2.2.2.2.2.2.2) 24 [(0, .ref a0.1), (1, .int i0), (2, .int i1)] _ [] rfl rfl rfl rfl ?_
      refine v_aload_n (pc2 := 25) S 0 dX9_keys_24 rfl rfl rfl ?_
      refine v_iload_n (pc2 := 26) S 1 dX9_keys_25 rfl rfl rfl ?_
      refine v_iconst (v := 1) (pc2 := 27) S dX9_keys_26 (by decide) rfl ?_
      refine v_callV (pc2 := 30) (As := [.int i0, .int (1 : Int32)]) (rest := []) S (c_X9_ofGuest l G a0 u8 i0 (1 : Int32) _ hw) mf_X9_ofGuest u_931 u_933 u_37 0 9 rfl rfl rfl rfl ⟨rfl, rfl⟩ ⟨Nat.le_of_ble_eq_true rfl, Nat.le_of_ble_eq_true rfl⟩ ⟨Nat.le_of_ble_eq_true rfl, Nat.le_of_ble_eq_true rfl⟩ (Nat.le_of_ble_eq_true rfl) dX9_keys_27 (frW _) rfl (pi (fun r9 u10 hw => ?_))
      refine v_to (wMod G a0 u8.1 u8.2.1 u8.2.2.1 u8.2.2.2.1 u8.2.2.2.2.1 u8.2.2.2.2.2.1 u8.2.2.2.2.2.2.1 u8.2.2.2.2.2.2.2.1 u8.2.2.2.2.2.2.2.2.1 u8.2.2.2.2.2.2.2.2.2.1 u8.2.2.2.2.2.2.2.2.2.2.1 u8.2.2.2.2.2.2.2.2.2.2.2.1 u8.2.2.2.2.2.2.2.2.2.2.2.2.1 u8.2.2.2.2.2.2.2.2.2.2.2.2.2.1 u8.2.2.2.2.2.2.2.2.2.2.2.2.2.2.1 u8.2.2.2.2.2.2.2.2.2.2.2.2.2.2.2.1 u8.2.2.2.2.2.2.2.2.2.2.2.2.2.2.2.2) 30 [(0, .ref a0.1), (1, .int i0), (2, .int i1)] _ [.int r9] rfl rfl rfl rfl ?_
      refine v_istore_n (lv2 := [(0, .ref a0.1), (1, .int i0), (2, .int i1), (3, .int r9)]) (pc2 := 31) S dX9_keys_30 rfl (by decide) [1, 2, 3, 0] rfl rfl ?_
      refine v_aload_n (pc2 := 32) S 0 dX9_keys_31 rfl rfl rfl ?_
      refine v_get (v := .ref a0.2.1) (pc2 := 35) S gf_X9_7 0 rfl rfl dX9_keys_32 rfl ?_
      refine v_bipush (v := 76) (pc2 := 37) S dX9_keys_35 (by decide) rfl ?_
      refine v_iconst (v := 3) (pc2 := 38) S dX9_keys_37 (by decide) rfl ?_
      refine v_iload_n (pc2 := 39) S 1 dX9_keys_38 rfl rfl rfl ?_
      refine v_imul (pc2 := 40) S dX9_keys_39 rfl ?_
      refine v_iadd (pc2 := 41) S dX9_keys_40 rfl ?_
      refine v_iconst (v := 1) (pc2 := 42) S dX9_keys_41 (by decide) rfl ?_
      refine v_iadd (pc2 := 43) S dX9_keys_42 rfl ?_
      refine v_iload_n (pc2 := 44) S 2 dX9_keys_43 rfl rfl rfl ?_
      obtain ⟨h11, hw⟩ := hw
      obtain ⟨g12, eg12⟩ : ∃ y : Nat → Int32, y = upd u8.1 (((76 : Int32) + ((3 : Int32) * i0)) + (1 : Int32)).toNatClampNeg i1 := ⟨_, rfl⟩
      have hw := hw g12 eg12
      refine v_iast (ws2 := wMod G a0 g12 u8.2.1 u8.2.2.1 u8.2.2.2.1 u8.2.2.2.2.1 u8.2.2.2.2.2.1 u8.2.2.2.2.2.2.1 u8.2.2.2.2.2.2.2.1 u8.2.2.2.2.2.2.2.2.1 u8.2.2.2.2.2.2.2.2.2.1 u8.2.2.2.2.2.2.2.2.2.2.1 u8.2.2.2.2.2.2.2.2.2.2.2.1 u8.2.2.2.2.2.2.2.2.2.2.2.2.1 u8.2.2.2.2.2.2.2.2.2.2.2.2.2.1 u8.2.2.2.2.2.2.2.2.2.2.2.2.2.2.1 u8.2.2.2.2.2.2.2.2.2.2.2.2.2.2.2.1 u8.2.2.2.2.2.2.2.2.2.2.2.2.2.2.2.2) (pc2 := 45) S 1 rfl h11 (by rw [eg12] <;> rfl) dX9_keys_44 rfl ?_
      refine v_iload_n (pc2 := 46) S 3 dX9_keys_45 rfl rfl rfl ?_
      exact v_iret S ⟨r9, (g12, u8.2.1, u8.2.2.1, u8.2.2.2.1, u8.2.2.2.2.1, u8.2.2.2.2.2.1, u8.2.2.2.2.2.2.1, u8.2.2.2.2.2.2.2.1, u8.2.2.2.2.2.2.2.2.1, u8.2.2.2.2.2.2.2.2.2.1, u8.2.2.2.2.2.2.2.2.2.2.1, u8.2.2.2.2.2.2.2.2.2.2.2.1, u8.2.2.2.2.2.2.2.2.2.2.2.2.1, u8.2.2.2.2.2.2.2.2.2.2.2.2.2.1, u8.2.2.2.2.2.2.2.2.2.2.2.2.2.2.1, u8.2.2.2.2.2.2.2.2.2.2.2.2.2.2.2.1, u8.2.2.2.2.2.2.2.2.2.2.2.2.2.2.2.2), rfl, rfl, hw⟩ dX9_keys_46
    · have hw := hw.2 c6
      refine v_iconst (v := -1) (pc2 := 19) S dX9_keys_18 (by decide) rfl ?_
      exact v_iret S ⟨(-1 : Int32), v0, rfl, rfl, hw⟩ dX9_keys_19
set_option maxHeartbeats 4000000 in
set_option maxRecDepth 100000 in
theorem c_X9_draft (l : Launch) (G : GG) (a0 : ModA) (v0 : ModV) (i0 : Int32) (Q : Int32 → ModV → Prop) (hw : wp_X9_draft v0 i0 Q) : Con l G yX9_draft cX9_draft 3 (some .int) { frames := 2, cells := 0, slots := 0, locals := 45 } [.ref a0.1, .int i0] (wMod G a0 v0.1 v0.2.1 v0.2.2.1 v0.2.2.2.1 v0.2.2.2.2.1 v0.2.2.2.2.2.1 v0.2.2.2.2.2.2.1 v0.2.2.2.2.2.2.2.1 v0.2.2.2.2.2.2.2.2.1 v0.2.2.2.2.2.2.2.2.2.1 v0.2.2.2.2.2.2.2.2.2.2.1 v0.2.2.2.2.2.2.2.2.2.2.2.1 v0.2.2.2.2.2.2.2.2.2.2.2.2.1 v0.2.2.2.2.2.2.2.2.2.2.2.2.2.1 v0.2.2.2.2.2.2.2.2.2.2.2.2.2.2.1 v0.2.2.2.2.2.2.2.2.2.2.2.2.2.2.2.1 v0.2.2.2.2.2.2.2.2.2.2.2.2.2.2.2.2) (PI (fun u : ModV => wMod G a0 u.1 u.2.1 u.2.2.1 u.2.2.2.1 u.2.2.2.2.1 u.2.2.2.2.2.1 u.2.2.2.2.2.2.1 u.2.2.2.2.2.2.2.1 u.2.2.2.2.2.2.2.2.1 u.2.2.2.2.2.2.2.2.2.1 u.2.2.2.2.2.2.2.2.2.2.1 u.2.2.2.2.2.2.2.2.2.2.2.1 u.2.2.2.2.2.2.2.2.2.2.2.2.1 u.2.2.2.2.2.2.2.2.2.2.2.2.2.1 u.2.2.2.2.2.2.2.2.2.2.2.2.2.2.1 u.2.2.2.2.2.2.2.2.2.2.2.2.2.2.2.1 u.2.2.2.2.2.2.2.2.2.2.2.2.2.2.2.2) Q) 0 0 := by
  refine con_of RX9 rfl (by decide) [(0, .ref a0.1), (1, .int i0)] rfl (Nat.le_of_ble_eq_true rfl) ?_
  intro p e s m args below meth c S hname
  refine v_iload_n (pc2 := 1) S 1 dX9_draft_0 rfl rfl rfl ?_
  refine v_iconst (v := 1) (pc2 := 2) S dX9_draft_1 (by decide) rfl ?_
  refine v_bipush (v := 10) (pc2 := 4) S dX9_draft_2 (by decide) rfl ?_
  refine v_callS (pc2 := 7) (As := [.int i0, .int (1 : Int32), .int (10 : Int32)]) (rest := []) S (c_X9_in l G i0 (1 : Int32) (10 : Int32) _ hw) mf_X9_in u_861 u_862 rfl rfl ⟨rfl, rfl⟩ ⟨Nat.le_of_ble_eq_true rfl, Nat.le_of_ble_eq_true rfl⟩ ⟨Nat.le_of_ble_eq_true rfl, Nat.le_of_ble_eq_true rfl⟩ (Nat.le_of_ble_eq_true rfl) dX9_draft_4 (frM [] [] _) rfl (pb (fun r1 u2 br1 hw => ?_))
  refine v_to (wMod G a0 v0.1 v0.2.1 v0.2.2.1 v0.2.2.2.1 v0.2.2.2.2.1 v0.2.2.2.2.2.1 v0.2.2.2.2.2.2.1 v0.2.2.2.2.2.2.2.1 v0.2.2.2.2.2.2.2.2.1 v0.2.2.2.2.2.2.2.2.2.1 v0.2.2.2.2.2.2.2.2.2.2.1 v0.2.2.2.2.2.2.2.2.2.2.2.1 v0.2.2.2.2.2.2.2.2.2.2.2.2.1 v0.2.2.2.2.2.2.2.2.2.2.2.2.2.1 v0.2.2.2.2.2.2.2.2.2.2.2.2.2.2.1 v0.2.2.2.2.2.2.2.2.2.2.2.2.2.2.2.1 v0.2.2.2.2.2.2.2.2.2.2.2.2.2.2.2.2) 7 [(0, .ref a0.1), (1, .int i0)] _ [.int r1] rfl rfl rfl rfl ?_
  refine v_if_ne (pc2 := 10) (tgt := 12) S dX9_draft_7 (by decide) rfl (fun c3 => ?_) (fun c3 => ?_)
  · have hw := hw.1 c3
    refine v_aload_n (pc2 := 13) S 0 dX9_draft_12 rfl rfl rfl ?_
    refine v_callV (pc2 := 16) (As := []) (rest := []) S (c_X9_record l G a0 v0 _ hw) mf_X9_record u_850 u_852 u_22 0 9 rfl rfl rfl rfl ⟨rfl, rfl⟩ ⟨Nat.le_of_ble_eq_true rfl, Nat.le_of_ble_eq_true rfl⟩ ⟨Nat.le_of_ble_eq_true rfl, Nat.le_of_ble_eq_true rfl⟩ (Nat.le_of_ble_eq_true rfl) dX9_draft_13 (frW _) rfl (pv (fun u5 hw => ?_))
    refine v_to (wMod G a0 u5.1 u5.2.1 u5.2.2.1 u5.2.2.2.1 u5.2.2.2.2.1 u5.2.2.2.2.2.1 u5.2.2.2.2.2.2.1 u5.2.2.2.2.2.2.2.1 u5.2.2.2.2.2.2.2.2.1 u5.2.2.2.2.2.2.2.2.2.1 u5.2.2.2.2.2.2.2.2.2.2.1 u5.2.2.2.2.2.2.2.2.2.2.2.1 u5.2.2.2.2.2.2.2.2.2.2.2.2.1 u5.2.2.2.2.2.2.2.2.2.2.2.2.2.1 u5.2.2.2.2.2.2.2.2.2.2.2.2.2.2.1 u5.2.2.2.2.2.2.2.2.2.2.2.2.2.2.2.1 u5.2.2.2.2.2.2.2.2.2.2.2.2.2.2.2.2) 16 [(0, .ref a0.1), (1, .int i0)] _ [] rfl rfl rfl rfl ?_
    refine v_aload_n (pc2 := 17) S 0 dX9_draft_16 rfl rfl rfl ?_
    refine v_get (v := .ref a0.2.1) (pc2 := 20) S gf_X9_7 0 rfl rfl dX9_draft_17 rfl ?_
    refine v_iconst (v := 0) (pc2 := 21) S dX9_draft_20 (by decide) rfl ?_
    obtain ⟨h6, hw⟩ := hw
    refine v_iald (pc2 := 22) S 1 rfl h6 dX9_draft_21 rfl ?_
    refine v_nm (fun z7 ez7 => ?_)
    have hw := hw z7 ez7
    refine v_istore_n (lv2 := [(0, .ref a0.1), (1, .int i0), (2, .int z7)]) (pc2 := 23) S dX9_draft_22 rfl (by decide) [1, 2, 0] rfl rfl ?_
    refine v_aload_n (pc2 := 24) S 0 dX9_draft_23 rfl rfl rfl ?_
    refine v_get (v := .ref a0.2.1) (pc2 := 27) S gf_X9_7 0 rfl rfl dX9_draft_24 rfl ?_
    refine v_iconst (v := 0) (pc2 := 28) S dX9_draft_27 (by decide) rfl ?_
    refine v_iload_n (pc2 := 29) S 1 dX9_draft_28 rfl rfl rfl ?_
    obtain ⟨h8, hw⟩ := hw
    obtain ⟨g9, eg9⟩ : ∃ y : Nat → Int32, y = upd u5.1 (0 : Int32).toNatClampNeg i0 := ⟨_, rfl⟩
    have hw := hw g9 eg9
    refine v_iast (ws2 := wMod G a0 g9 u5.2.1 u5.2.2.1 u5.2.2.2.1 u5.2.2.2.2.1 u5.2.2.2.2.2.1 u5.2.2.2.2.2.2.1 u5.2.2.2.2.2.2.2.1 u5.2.2.2.2.2.2.2.2.1 u5.2.2.2.2.2.2.2.2.2.1 u5.2.2.2.2.2.2.2.2.2.2.1 u5.2.2.2.2.2.2.2.2.2.2.2.1 u5.2.2.2.2.2.2.2.2.2.2.2.2.1 u5.2.2.2.2.2.2.2.2.2.2.2.2.2.1 u5.2.2.2.2.2.2.2.2.2.2.2.2.2.2.1 u5.2.2.2.2.2.2.2.2.2.2.2.2.2.2.2.1 u5.2.2.2.2.2.2.2.2.2.2.2.2.2.2.2.2) (pc2 := 30) S 1 rfl h8 (by rw [eg9] <;> rfl) dX9_draft_29 rfl ?_
    refine v_iload_n (pc2 := 31) S 2 dX9_draft_30 rfl rfl rfl ?_
    exact v_iret S ⟨z7, (g9, u5.2.1, u5.2.2.1, u5.2.2.2.1, u5.2.2.2.2.1, u5.2.2.2.2.2.1, u5.2.2.2.2.2.2.1, u5.2.2.2.2.2.2.2.1, u5.2.2.2.2.2.2.2.2.1, u5.2.2.2.2.2.2.2.2.2.1, u5.2.2.2.2.2.2.2.2.2.2.1, u5.2.2.2.2.2.2.2.2.2.2.2.1, u5.2.2.2.2.2.2.2.2.2.2.2.2.1, u5.2.2.2.2.2.2.2.2.2.2.2.2.2.1, u5.2.2.2.2.2.2.2.2.2.2.2.2.2.2.1, u5.2.2.2.2.2.2.2.2.2.2.2.2.2.2.2.1, u5.2.2.2.2.2.2.2.2.2.2.2.2.2.2.2.2), rfl, rfl, hw⟩ dX9_draft_31
  · have hw := hw.2 c3
    refine v_iconst (v := -1) (pc2 := 11) S dX9_draft_10 (by decide) rfl ?_
    exact v_iret S ⟨(-1 : Int32), v0, rfl, rfl, hw⟩ dX9_draft_11
set_option maxHeartbeats 4000000 in
set_option maxRecDepth 100000 in
theorem c_X9_append (l : Launch) (G : GG) (a0 : ModA) (v0 : ModV) (i0 : Int32) (Q : Int32 → ModV → Prop) (hw : wp_X9_append v0 i0 Q) : Con l G yX9_append cX9_append 2 (some .int) { frames := 1, cells := 0, slots := 0, locals := 22 } [.ref a0.1, .int i0] (wMod G a0 v0.1 v0.2.1 v0.2.2.1 v0.2.2.2.1 v0.2.2.2.2.1 v0.2.2.2.2.2.1 v0.2.2.2.2.2.2.1 v0.2.2.2.2.2.2.2.1 v0.2.2.2.2.2.2.2.2.1 v0.2.2.2.2.2.2.2.2.2.1 v0.2.2.2.2.2.2.2.2.2.2.1 v0.2.2.2.2.2.2.2.2.2.2.2.1 v0.2.2.2.2.2.2.2.2.2.2.2.2.1 v0.2.2.2.2.2.2.2.2.2.2.2.2.2.1 v0.2.2.2.2.2.2.2.2.2.2.2.2.2.2.1 v0.2.2.2.2.2.2.2.2.2.2.2.2.2.2.2.1 v0.2.2.2.2.2.2.2.2.2.2.2.2.2.2.2.2) (PI (fun u : ModV => wMod G a0 u.1 u.2.1 u.2.2.1 u.2.2.2.1 u.2.2.2.2.1 u.2.2.2.2.2.1 u.2.2.2.2.2.2.1 u.2.2.2.2.2.2.2.1 u.2.2.2.2.2.2.2.2.1 u.2.2.2.2.2.2.2.2.2.1 u.2.2.2.2.2.2.2.2.2.2.1 u.2.2.2.2.2.2.2.2.2.2.2.1 u.2.2.2.2.2.2.2.2.2.2.2.2.1 u.2.2.2.2.2.2.2.2.2.2.2.2.2.1 u.2.2.2.2.2.2.2.2.2.2.2.2.2.2.1 u.2.2.2.2.2.2.2.2.2.2.2.2.2.2.2.1 u.2.2.2.2.2.2.2.2.2.2.2.2.2.2.2.2) Q) 0 0 := by
  refine con_of RX9 rfl (by decide) [(0, .ref a0.1), (1, .int i0)] rfl (Nat.le_of_ble_eq_true rfl) ?_
  intro p e s m args below meth c S hname
  refine v_iload_n (pc2 := 1) S 1 dX9_append_0 rfl rfl rfl ?_
  refine v_bipush (v := 33) (pc2 := 3) S dX9_append_1 (by decide) rfl ?_
  refine v_bipush (v := 126) (pc2 := 5) S dX9_append_3 (by decide) rfl ?_
  refine v_callS (pc2 := 8) (As := [.int i0, .int (33 : Int32), .int (126 : Int32)]) (rest := []) S (c_X9_in l G i0 (33 : Int32) (126 : Int32) _ hw) mf_X9_in u_861 u_862 rfl rfl ⟨rfl, rfl⟩ ⟨Nat.le_of_ble_eq_true rfl, Nat.le_of_ble_eq_true rfl⟩ ⟨Nat.le_of_ble_eq_true rfl, Nat.le_of_ble_eq_true rfl⟩ (Nat.le_of_ble_eq_true rfl) dX9_append_5 (frM [] [] _) rfl (pb (fun r1 u2 br1 hw => ?_))
  refine v_to (wMod G a0 v0.1 v0.2.1 v0.2.2.1 v0.2.2.2.1 v0.2.2.2.2.1 v0.2.2.2.2.2.1 v0.2.2.2.2.2.2.1 v0.2.2.2.2.2.2.2.1 v0.2.2.2.2.2.2.2.2.1 v0.2.2.2.2.2.2.2.2.2.1 v0.2.2.2.2.2.2.2.2.2.2.1 v0.2.2.2.2.2.2.2.2.2.2.2.1 v0.2.2.2.2.2.2.2.2.2.2.2.2.1 v0.2.2.2.2.2.2.2.2.2.2.2.2.2.1 v0.2.2.2.2.2.2.2.2.2.2.2.2.2.2.1 v0.2.2.2.2.2.2.2.2.2.2.2.2.2.2.2.1 v0.2.2.2.2.2.2.2.2.2.2.2.2.2.2.2.2) 8 [(0, .ref a0.1), (1, .int i0)] _ [.int r1] rfl rfl rfl rfl ?_
  refine v_if_ne (pc2 := 11) (tgt := 13) S dX9_append_8 (by decide) rfl (fun c3 => ?_) (fun c3 => ?_)
  · have hw := hw.1 c3
    refine v_aload_n (pc2 := 14) S 0 dX9_append_13 rfl rfl rfl ?_
    refine v_get (v := .int v0.2.2.2.2.2.2.2.1) (pc2 := 17) S gf_X9_151 0 rfl rfl dX9_append_14 rfl ?_
    refine v_bipush (v := 60) (pc2 := 19) S dX9_append_17 (by decide) rfl ?_
    refine v_icmp_ne (pc2 := 22) (tgt := 25) S dX9_append_19 (by decide) rfl (fun c4 => ?_) (fun c4 => ?_)
    · have hw := hw.1 c4
      refine v_aload_n (pc2 := 26) S 0 dX9_append_25 rfl rfl rfl ?_
      refine v_get (v := .ref a0.2.2.2.2.2.1) (pc2 := 29) S gf_X9_22 0 rfl rfl dX9_append_26 rfl ?_
      refine v_aload_n (pc2 := 30) S 0 dX9_append_29 rfl rfl rfl ?_
      refine v_get (v := .int v0.2.2.2.2.2.2.2.1) (pc2 := 33) S gf_X9_151 0 rfl rfl dX9_append_30 rfl ?_
      refine v_iload_n (pc2 := 34) S 1 dX9_append_33 rfl rfl rfl ?_
      obtain ⟨h5, hw⟩ := hw
      obtain ⟨g6, eg6⟩ : ∃ y : Nat → Int32, y = upd v0.2.2.2.2.2.2.1 v0.2.2.2.2.2.2.2.1.toNatClampNeg i0 := ⟨_, rfl⟩
      have hw := hw g6 eg6
      refine v_iast (ws2 := wMod G a0 v0.1 v0.2.1 v0.2.2.1 v0.2.2.2.1 v0.2.2.2.2.1 v0.2.2.2.2.2.1 g6 v0.2.2.2.2.2.2.2.1 v0.2.2.2.2.2.2.2.2.1 v0.2.2.2.2.2.2.2.2.2.1 v0.2.2.2.2.2.2.2.2.2.2.1 v0.2.2.2.2.2.2.2.2.2.2.2.1 v0.2.2.2.2.2.2.2.2.2.2.2.2.1 v0.2.2.2.2.2.2.2.2.2.2.2.2.2.1 v0.2.2.2.2.2.2.2.2.2.2.2.2.2.2.1 v0.2.2.2.2.2.2.2.2.2.2.2.2.2.2.2.1 v0.2.2.2.2.2.2.2.2.2.2.2.2.2.2.2.2) (pc2 := 35) S 5 rfl h5 (by rw [eg6] <;> rfl) dX9_append_34 rfl ?_
      refine v_aload_n (pc2 := 36) S 0 dX9_append_35 rfl rfl rfl ?_
      refine v_dup (pc2 := 37) S dX9_append_36 rfl rfl ?_
      refine v_get (v := .int v0.2.2.2.2.2.2.2.1) (pc2 := 40) S gf_X9_151 0 rfl rfl dX9_append_37 rfl ?_
      refine v_iconst (v := 1) (pc2 := 41) S dX9_append_40 (by decide) rfl ?_
      refine v_iadd (pc2 := 42) S dX9_append_41 rfl ?_
      refine v_nm (fun z7 ez7 => ?_)
      have hw := hw z7 ez7
      refine v_put (ws2 := wMod G a0 v0.1 v0.2.1 v0.2.2.1 v0.2.2.2.1 v0.2.2.2.2.1 v0.2.2.2.2.2.1 g6 z7 v0.2.2.2.2.2.2.2.2.1 v0.2.2.2.2.2.2.2.2.2.1 v0.2.2.2.2.2.2.2.2.2.2.1 v0.2.2.2.2.2.2.2.2.2.2.2.1 v0.2.2.2.2.2.2.2.2.2.2.2.2.1 v0.2.2.2.2.2.2.2.2.2.2.2.2.2.1 v0.2.2.2.2.2.2.2.2.2.2.2.2.2.2.1 v0.2.2.2.2.2.2.2.2.2.2.2.2.2.2.2.1 v0.2.2.2.2.2.2.2.2.2.2.2.2.2.2.2.2) (pc2 := 45) S gf_X9_151 pf_X9_7 0 rfl rfl rfl (Nat.le_of_ble_eq_true rfl) rfl dX9_append_42 rfl ?_
      refine v_aload_n (pc2 := 46) S 0 dX9_append_45 rfl rfl rfl ?_
      refine v_get (v := .int z7) (pc2 := 49) S gf_X9_151 0 rfl rfl dX9_append_46 rfl ?_
      exact v_iret S ⟨z7, (v0.1, v0.2.1, v0.2.2.1, v0.2.2.2.1, v0.2.2.2.2.1, v0.2.2.2.2.2.1, g6, z7, v0.2.2.2.2.2.2.2.2.1, v0.2.2.2.2.2.2.2.2.2.1, v0.2.2.2.2.2.2.2.2.2.2.1, v0.2.2.2.2.2.2.2.2.2.2.2.1, v0.2.2.2.2.2.2.2.2.2.2.2.2.1, v0.2.2.2.2.2.2.2.2.2.2.2.2.2.1, v0.2.2.2.2.2.2.2.2.2.2.2.2.2.2.1, v0.2.2.2.2.2.2.2.2.2.2.2.2.2.2.2.1, v0.2.2.2.2.2.2.2.2.2.2.2.2.2.2.2.2), rfl, rfl, hw⟩ dX9_append_49
    · have hw := hw.2 c4
      refine v_bipush (v := -3) (pc2 := 24) S dX9_append_22 (by decide) rfl ?_
      exact v_iret S ⟨(-3 : Int32), v0, rfl, rfl, hw⟩ dX9_append_24
  · have hw := hw.2 c3
    refine v_iconst (v := -1) (pc2 := 12) S dX9_append_11 (by decide) rfl ?_
    exact v_iret S ⟨(-1 : Int32), v0, rfl, rfl, hw⟩ dX9_append_12
set_option maxHeartbeats 4000000 in
set_option maxRecDepth 100000 in
theorem c_X9_clear (l : Launch) (G : GG) (a0 : ModA) (v0 : ModV) (Q : Int32 → ModV → Prop) (hw : wp_X9_clear v0 Q) : Con l G yX9_clear cX9_clear 2 (some .int) { frames := 0, cells := 0, slots := 0, locals := 0 } [.ref a0.1] (wMod G a0 v0.1 v0.2.1 v0.2.2.1 v0.2.2.2.1 v0.2.2.2.2.1 v0.2.2.2.2.2.1 v0.2.2.2.2.2.2.1 v0.2.2.2.2.2.2.2.1 v0.2.2.2.2.2.2.2.2.1 v0.2.2.2.2.2.2.2.2.2.1 v0.2.2.2.2.2.2.2.2.2.2.1 v0.2.2.2.2.2.2.2.2.2.2.2.1 v0.2.2.2.2.2.2.2.2.2.2.2.2.1 v0.2.2.2.2.2.2.2.2.2.2.2.2.2.1 v0.2.2.2.2.2.2.2.2.2.2.2.2.2.2.1 v0.2.2.2.2.2.2.2.2.2.2.2.2.2.2.2.1 v0.2.2.2.2.2.2.2.2.2.2.2.2.2.2.2.2) (PI (fun u : ModV => wMod G a0 u.1 u.2.1 u.2.2.1 u.2.2.2.1 u.2.2.2.2.1 u.2.2.2.2.2.1 u.2.2.2.2.2.2.1 u.2.2.2.2.2.2.2.1 u.2.2.2.2.2.2.2.2.1 u.2.2.2.2.2.2.2.2.2.1 u.2.2.2.2.2.2.2.2.2.2.1 u.2.2.2.2.2.2.2.2.2.2.2.1 u.2.2.2.2.2.2.2.2.2.2.2.2.1 u.2.2.2.2.2.2.2.2.2.2.2.2.2.1 u.2.2.2.2.2.2.2.2.2.2.2.2.2.2.1 u.2.2.2.2.2.2.2.2.2.2.2.2.2.2.2.1 u.2.2.2.2.2.2.2.2.2.2.2.2.2.2.2.2) Q) 0 0 := by
  refine con_of RX9 rfl (by decide) [(0, .ref a0.1)] rfl (Nat.le_of_ble_eq_true rfl) ?_
  intro p e s m args below meth c S hname
  refine v_aload_n (pc2 := 1) S 0 dX9_clear_0 rfl rfl rfl ?_
  refine v_get (v := .int v0.2.2.2.2.2.2.2.1) (pc2 := 4) S gf_X9_151 0 rfl rfl dX9_clear_1 rfl ?_
  refine v_nm (fun z1 ez1 => ?_)
  have hw := hw z1 ez1
  refine v_istore_n (lv2 := [(0, .ref a0.1), (1, .int z1)]) (pc2 := 5) S dX9_clear_4 rfl (by decide) [1, 0] rfl rfl ?_
  refine v_aload_n (pc2 := 6) S 0 dX9_clear_5 rfl rfl rfl ?_
  refine v_iconst (v := 0) (pc2 := 7) S dX9_clear_6 (by decide) rfl ?_
  refine v_put (ws2 := wMod G a0 v0.1 v0.2.1 v0.2.2.1 v0.2.2.2.1 v0.2.2.2.2.1 v0.2.2.2.2.2.1 v0.2.2.2.2.2.2.1 (0 : Int32) v0.2.2.2.2.2.2.2.2.1 v0.2.2.2.2.2.2.2.2.2.1 v0.2.2.2.2.2.2.2.2.2.2.1 v0.2.2.2.2.2.2.2.2.2.2.2.1 v0.2.2.2.2.2.2.2.2.2.2.2.2.1 v0.2.2.2.2.2.2.2.2.2.2.2.2.2.1 v0.2.2.2.2.2.2.2.2.2.2.2.2.2.2.1 v0.2.2.2.2.2.2.2.2.2.2.2.2.2.2.2.1 v0.2.2.2.2.2.2.2.2.2.2.2.2.2.2.2.2) (pc2 := 10) S gf_X9_151 pf_X9_7 0 rfl rfl rfl (Nat.le_of_ble_eq_true rfl) rfl dX9_clear_7 rfl ?_
  refine v_iload_n (pc2 := 11) S 1 dX9_clear_10 rfl rfl rfl ?_
  exact v_iret S ⟨z1, (v0.1, v0.2.1, v0.2.2.1, v0.2.2.2.1, v0.2.2.2.2.1, v0.2.2.2.2.2.1, v0.2.2.2.2.2.2.1, (0 : Int32), v0.2.2.2.2.2.2.2.2.1, v0.2.2.2.2.2.2.2.2.2.1, v0.2.2.2.2.2.2.2.2.2.2.1, v0.2.2.2.2.2.2.2.2.2.2.2.1, v0.2.2.2.2.2.2.2.2.2.2.2.2.1, v0.2.2.2.2.2.2.2.2.2.2.2.2.2.1, v0.2.2.2.2.2.2.2.2.2.2.2.2.2.2.1, v0.2.2.2.2.2.2.2.2.2.2.2.2.2.2.2.1, v0.2.2.2.2.2.2.2.2.2.2.2.2.2.2.2.2), rfl, rfl, hw⟩ dX9_clear_11
set_option maxHeartbeats 4000000 in
set_option maxRecDepth 100000 in
theorem c_X9_sees (l : Launch) (G : GG) (a0 : ModA) (v0 : ModV) (i0 : Int32) (i1 : Int32) (Q : Int32 → Prop) (hw : wp_X9_sees v0 i0 i1 Q) : Con l G yX9_sees cX9_sees 3 (some .boolean) { frames := 1, cells := 0, slots := 0, locals := 22 } [.ref a0.1, .int i0, .int i1] (wMod G a0 v0.1 v0.2.1 v0.2.2.1 v0.2.2.2.1 v0.2.2.2.2.1 v0.2.2.2.2.2.1 v0.2.2.2.2.2.2.1 v0.2.2.2.2.2.2.2.1 v0.2.2.2.2.2.2.2.2.1 v0.2.2.2.2.2.2.2.2.2.1 v0.2.2.2.2.2.2.2.2.2.2.1 v0.2.2.2.2.2.2.2.2.2.2.2.1 v0.2.2.2.2.2.2.2.2.2.2.2.2.1 v0.2.2.2.2.2.2.2.2.2.2.2.2.2.1 v0.2.2.2.2.2.2.2.2.2.2.2.2.2.2.1 v0.2.2.2.2.2.2.2.2.2.2.2.2.2.2.2.1 v0.2.2.2.2.2.2.2.2.2.2.2.2.2.2.2.2) (PB (fun _ : Unit => wMod G a0 v0.1 v0.2.1 v0.2.2.1 v0.2.2.2.1 v0.2.2.2.2.1 v0.2.2.2.2.2.1 v0.2.2.2.2.2.2.1 v0.2.2.2.2.2.2.2.1 v0.2.2.2.2.2.2.2.2.1 v0.2.2.2.2.2.2.2.2.2.1 v0.2.2.2.2.2.2.2.2.2.2.1 v0.2.2.2.2.2.2.2.2.2.2.2.1 v0.2.2.2.2.2.2.2.2.2.2.2.2.1 v0.2.2.2.2.2.2.2.2.2.2.2.2.2.1 v0.2.2.2.2.2.2.2.2.2.2.2.2.2.2.1 v0.2.2.2.2.2.2.2.2.2.2.2.2.2.2.2.1 v0.2.2.2.2.2.2.2.2.2.2.2.2.2.2.2.2) (fun r _ => Q r)) 0 0 := by
  refine con_of RX9 rfl (by decide) [(0, .ref a0.1), (1, .int i0), (2, .int i1)] rfl (Nat.le_of_ble_eq_true rfl) ?_
  intro p e s m args below meth c S hname
  refine v_aload_n (pc2 := 1) S 0 dX9_sees_0 rfl rfl rfl ?_
  refine v_get (v := .int v0.2.2.2.2.2.2.2.2.2.2.2.1) (pc2 := 4) S gf_X9_154 0 rfl rfl dX9_sees_1 rfl ?_
  refine v_aload_n (pc2 := 5) S 0 dX9_sees_4 rfl rfl rfl ?_
  refine v_get (v := .int v0.2.2.2.2.2.2.2.1) (pc2 := 8) S gf_X9_151 0 rfl rfl dX9_sees_5 rfl ?_
  refine v_icmp_ge (pc2 := 11) (tgt := 32) S dX9_sees_8 (by decide) rfl (fun c1 => ?_) (fun c1 => ?_)
  · have hw := hw.1 c1
    refine v_iconst (v := 0) (pc2 := 33) S dX9_sees_32 (by decide) rfl ?_
    exact v_zret S (by decide) ⟨(0 : Int32), (), rfl, (by decide), rfl, hw⟩ dX9_sees_33
  · have hw := hw.2 c1
    refine v_aload_n (pc2 := 12) S 0 dX9_sees_11 rfl rfl rfl ?_
    refine v_get (v := .ref a0.2.2.2.2.2.1) (pc2 := 15) S gf_X9_22 0 rfl rfl dX9_sees_12 rfl ?_
    refine v_aload_n (pc2 := 16) S 0 dX9_sees_15 rfl rfl rfl ?_
    refine v_get (v := .int v0.2.2.2.2.2.2.2.2.2.2.2.1) (pc2 := 19) S gf_X9_154 0 rfl rfl dX9_sees_16 rfl ?_
    obtain ⟨h2, hw⟩ := hw
    refine v_iald (pc2 := 20) S 5 rfl h2 dX9_sees_19 rfl ?_
    refine v_iload_n (pc2 := 21) S 1 dX9_sees_20 rfl rfl rfl ?_
    refine v_iload_n (pc2 := 22) S 2 dX9_sees_21 rfl rfl rfl ?_
    refine v_callS (pc2 := 25) (As := [.int (v0.2.2.2.2.2.2.1 v0.2.2.2.2.2.2.2.2.2.2.2.1.toNatClampNeg), .int i0, .int i1]) (rest := []) S (c_X9_in l G (v0.2.2.2.2.2.2.1 v0.2.2.2.2.2.2.2.2.2.2.2.1.toNatClampNeg) i0 i1 _ hw) mf_X9_in u_861 u_862 rfl rfl ⟨rfl, rfl⟩ ⟨Nat.le_of_ble_eq_true rfl, Nat.le_of_ble_eq_true rfl⟩ ⟨Nat.le_of_ble_eq_true rfl, Nat.le_of_ble_eq_true rfl⟩ (Nat.le_of_ble_eq_true rfl) dX9_sees_22 (frM [] [] _) rfl (pb (fun r3 u4 br3 hw => ?_))
    refine v_to (wMod G a0 v0.1 v0.2.1 v0.2.2.1 v0.2.2.2.1 v0.2.2.2.2.1 v0.2.2.2.2.2.1 v0.2.2.2.2.2.2.1 v0.2.2.2.2.2.2.2.1 v0.2.2.2.2.2.2.2.2.1 v0.2.2.2.2.2.2.2.2.2.1 v0.2.2.2.2.2.2.2.2.2.2.1 v0.2.2.2.2.2.2.2.2.2.2.2.1 v0.2.2.2.2.2.2.2.2.2.2.2.2.1 v0.2.2.2.2.2.2.2.2.2.2.2.2.2.1 v0.2.2.2.2.2.2.2.2.2.2.2.2.2.2.1 v0.2.2.2.2.2.2.2.2.2.2.2.2.2.2.2.1 v0.2.2.2.2.2.2.2.2.2.2.2.2.2.2.2.2) 25 [(0, .ref a0.1), (1, .int i0), (2, .int i1)] _ [.int r3] rfl rfl rfl rfl ?_
    refine v_if_eq (pc2 := 28) (tgt := 32) S dX9_sees_25 (by decide) rfl (fun c5 => ?_) (fun c5 => ?_)
    · have hw := hw.1 c5
      refine v_iconst (v := 0) (pc2 := 33) S dX9_sees_32 (by decide) rfl ?_
      exact v_zret S (by decide) ⟨(0 : Int32), (), rfl, (by decide), rfl, hw⟩ dX9_sees_33
    · have hw := hw.2 c5
      refine v_iconst (v := 1) (pc2 := 29) S dX9_sees_28 (by decide) rfl ?_
      refine v_goto (tgt := 33) S dX9_sees_29 (by decide) ?_
      exact v_zret S (by decide) ⟨(1 : Int32), (), rfl, (by decide), rfl, hw⟩ dX9_sees_33
set_option maxHeartbeats 4000000 in
set_option maxRecDepth 100000 in
theorem c_X9_takes (l : Launch) (G : GG) (a0 : ModA) (v0 : ModV) (i0 : Int32) (Q : Int32 → ModV → Prop) (hw : wp_X9_takes v0 i0 Q) : Con l G yX9_takes cX9_takes 3 (some .boolean) { frames := 2, cells := 0, slots := 0, locals := 44 } [.ref a0.1, .int i0] (wMod G a0 v0.1 v0.2.1 v0.2.2.1 v0.2.2.2.1 v0.2.2.2.2.1 v0.2.2.2.2.2.1 v0.2.2.2.2.2.2.1 v0.2.2.2.2.2.2.2.1 v0.2.2.2.2.2.2.2.2.1 v0.2.2.2.2.2.2.2.2.2.1 v0.2.2.2.2.2.2.2.2.2.2.1 v0.2.2.2.2.2.2.2.2.2.2.2.1 v0.2.2.2.2.2.2.2.2.2.2.2.2.1 v0.2.2.2.2.2.2.2.2.2.2.2.2.2.1 v0.2.2.2.2.2.2.2.2.2.2.2.2.2.2.1 v0.2.2.2.2.2.2.2.2.2.2.2.2.2.2.2.1 v0.2.2.2.2.2.2.2.2.2.2.2.2.2.2.2.2) (PB (fun u : ModV => wMod G a0 u.1 u.2.1 u.2.2.1 u.2.2.2.1 u.2.2.2.2.1 u.2.2.2.2.2.1 u.2.2.2.2.2.2.1 u.2.2.2.2.2.2.2.1 u.2.2.2.2.2.2.2.2.1 u.2.2.2.2.2.2.2.2.2.1 u.2.2.2.2.2.2.2.2.2.2.1 u.2.2.2.2.2.2.2.2.2.2.2.1 u.2.2.2.2.2.2.2.2.2.2.2.2.1 u.2.2.2.2.2.2.2.2.2.2.2.2.2.1 u.2.2.2.2.2.2.2.2.2.2.2.2.2.2.1 u.2.2.2.2.2.2.2.2.2.2.2.2.2.2.2.1 u.2.2.2.2.2.2.2.2.2.2.2.2.2.2.2.2) Q) 0 0 := by
  refine con_of RX9 rfl (by decide) [(0, .ref a0.1), (1, .int i0)] rfl (Nat.le_of_ble_eq_true rfl) ?_
  intro p e s m args below meth c S hname
  refine v_aload_n (pc2 := 1) S 0 dX9_takes_0 rfl rfl rfl ?_
  refine v_iload_n (pc2 := 2) S 1 dX9_takes_1 rfl rfl rfl ?_
  refine v_iload_n (pc2 := 3) S 1 dX9_takes_2 rfl rfl rfl ?_
  refine v_callV (pc2 := 6) (As := [.int i0, .int i0]) (rest := []) S (c_X9_sees l G a0 v0 i0 i0 _ hw) mf_X9_sees u_1010 u_1012 u_47 0 9 rfl rfl rfl rfl ⟨rfl, rfl⟩ ⟨Nat.le_of_ble_eq_true rfl, Nat.le_of_ble_eq_true rfl⟩ ⟨Nat.le_of_ble_eq_true rfl, Nat.le_of_ble_eq_true rfl⟩ (Nat.le_of_ble_eq_true rfl) dX9_takes_3 (frW _) rfl (pb (fun r1 u2 br1 hw => ?_))
  refine v_to (wMod G a0 v0.1 v0.2.1 v0.2.2.1 v0.2.2.2.1 v0.2.2.2.2.1 v0.2.2.2.2.2.1 v0.2.2.2.2.2.2.1 v0.2.2.2.2.2.2.2.1 v0.2.2.2.2.2.2.2.2.1 v0.2.2.2.2.2.2.2.2.2.1 v0.2.2.2.2.2.2.2.2.2.2.1 v0.2.2.2.2.2.2.2.2.2.2.2.1 v0.2.2.2.2.2.2.2.2.2.2.2.2.1 v0.2.2.2.2.2.2.2.2.2.2.2.2.2.1 v0.2.2.2.2.2.2.2.2.2.2.2.2.2.2.1 v0.2.2.2.2.2.2.2.2.2.2.2.2.2.2.2.1 v0.2.2.2.2.2.2.2.2.2.2.2.2.2.2.2.2) 6 [(0, .ref a0.1), (1, .int i0)] _ [.int r1] rfl rfl rfl rfl ?_
  refine v_istore_n (lv2 := [(0, .ref a0.1), (1, .int i0), (2, .int r1)]) (pc2 := 7) S dX9_takes_6 rfl (by decide) [1, 2, 0] rfl rfl ?_
  refine v_aload_n (pc2 := 8) S 0 dX9_takes_7 rfl rfl rfl ?_
  refine v_dup (pc2 := 9) S dX9_takes_8 rfl rfl ?_
  refine v_get (v := .int v0.2.2.2.2.2.2.2.2.2.2.2.1) (pc2 := 12) S gf_X9_154 0 rfl rfl dX9_takes_9 rfl ?_
  refine v_iload_n (pc2 := 13) S 2 dX9_takes_12 rfl rfl rfl ?_
  refine v_if_eq (pc2 := 16) (tgt := 20) S dX9_takes_13 (by decide) rfl (fun c3 => ?_) (fun c3 => ?_)
  · have hw := hw.1 c3
    refine v_iconst (v := 0) (pc2 := 21) S dX9_takes_20 (by decide) rfl ?_
    refine v_iadd (pc2 := 22) S dX9_takes_21 rfl ?_
    refine v_nm (fun z4 ez4 => ?_)
    have hw := hw z4 ez4
    refine v_put (ws2 := wMod G a0 v0.1 v0.2.1 v0.2.2.1 v0.2.2.2.1 v0.2.2.2.2.1 v0.2.2.2.2.2.1 v0.2.2.2.2.2.2.1 v0.2.2.2.2.2.2.2.1 v0.2.2.2.2.2.2.2.2.1 v0.2.2.2.2.2.2.2.2.2.1 v0.2.2.2.2.2.2.2.2.2.2.1 z4 v0.2.2.2.2.2.2.2.2.2.2.2.2.1 v0.2.2.2.2.2.2.2.2.2.2.2.2.2.1 v0.2.2.2.2.2.2.2.2.2.2.2.2.2.2.1 v0.2.2.2.2.2.2.2.2.2.2.2.2.2.2.2.1 v0.2.2.2.2.2.2.2.2.2.2.2.2.2.2.2.2) (pc2 := 25) S gf_X9_154 pf_X9_11 0 rfl rfl rfl (Nat.le_of_ble_eq_true rfl) rfl dX9_takes_22 rfl ?_
    refine v_iload_n (pc2 := 26) S 2 dX9_takes_25 rfl rfl rfl ?_
    exact v_zret S br1 ⟨r1, (v0.1, v0.2.1, v0.2.2.1, v0.2.2.2.1, v0.2.2.2.2.1, v0.2.2.2.2.2.1, v0.2.2.2.2.2.2.1, v0.2.2.2.2.2.2.2.1, v0.2.2.2.2.2.2.2.2.1, v0.2.2.2.2.2.2.2.2.2.1, v0.2.2.2.2.2.2.2.2.2.2.1, z4, v0.2.2.2.2.2.2.2.2.2.2.2.2.1, v0.2.2.2.2.2.2.2.2.2.2.2.2.2.1, v0.2.2.2.2.2.2.2.2.2.2.2.2.2.2.1, v0.2.2.2.2.2.2.2.2.2.2.2.2.2.2.2.1, v0.2.2.2.2.2.2.2.2.2.2.2.2.2.2.2.2), rfl, br1, rfl, hw⟩ dX9_takes_26
  · have hw := hw.2 c3
    refine v_iconst (v := 1) (pc2 := 17) S dX9_takes_16 (by decide) rfl ?_
    refine v_goto (tgt := 21) S dX9_takes_17 (by decide) ?_
    refine v_iadd (pc2 := 22) S dX9_takes_21 rfl ?_
    refine v_nm (fun z5 ez5 => ?_)
    have hw := hw z5 ez5
    refine v_put (ws2 := wMod G a0 v0.1 v0.2.1 v0.2.2.1 v0.2.2.2.1 v0.2.2.2.2.1 v0.2.2.2.2.2.1 v0.2.2.2.2.2.2.1 v0.2.2.2.2.2.2.2.1 v0.2.2.2.2.2.2.2.2.1 v0.2.2.2.2.2.2.2.2.2.1 v0.2.2.2.2.2.2.2.2.2.2.1 z5 v0.2.2.2.2.2.2.2.2.2.2.2.2.1 v0.2.2.2.2.2.2.2.2.2.2.2.2.2.1 v0.2.2.2.2.2.2.2.2.2.2.2.2.2.2.1 v0.2.2.2.2.2.2.2.2.2.2.2.2.2.2.2.1 v0.2.2.2.2.2.2.2.2.2.2.2.2.2.2.2.2) (pc2 := 25) S gf_X9_154 pf_X9_11 0 rfl rfl rfl (Nat.le_of_ble_eq_true rfl) rfl dX9_takes_22 rfl ?_
    refine v_iload_n (pc2 := 26) S 2 dX9_takes_25 rfl rfl rfl ?_
    exact v_zret S br1 ⟨r1, (v0.1, v0.2.1, v0.2.2.1, v0.2.2.2.1, v0.2.2.2.2.1, v0.2.2.2.2.2.1, v0.2.2.2.2.2.2.1, v0.2.2.2.2.2.2.2.1, v0.2.2.2.2.2.2.2.2.1, v0.2.2.2.2.2.2.2.2.2.1, v0.2.2.2.2.2.2.2.2.2.2.1, z5, v0.2.2.2.2.2.2.2.2.2.2.2.2.1, v0.2.2.2.2.2.2.2.2.2.2.2.2.2.1, v0.2.2.2.2.2.2.2.2.2.2.2.2.2.2.1, v0.2.2.2.2.2.2.2.2.2.2.2.2.2.2.2.1, v0.2.2.2.2.2.2.2.2.2.2.2.2.2.2.2.2), rfl, br1, rfl, hw⟩ dX9_takes_26
set_option maxHeartbeats 4000000 in
set_option maxRecDepth 100000 in
theorem c_X9_takesOne (l : Launch) (G : GG) (a0 : ModA) (v0 : ModV) (i0 : Int32) (i1 : Int32) (Q : Int32 → ModV → Prop) (hw : wp_X9_takesOne v0 i0 i1 Q) : Con l G yX9_takesOne cX9_takesOne 3 (some .int) { frames := 2, cells := 0, slots := 0, locals := 44 } [.ref a0.1, .int i0, .int i1] (wMod G a0 v0.1 v0.2.1 v0.2.2.1 v0.2.2.2.1 v0.2.2.2.2.1 v0.2.2.2.2.2.1 v0.2.2.2.2.2.2.1 v0.2.2.2.2.2.2.2.1 v0.2.2.2.2.2.2.2.2.1 v0.2.2.2.2.2.2.2.2.2.1 v0.2.2.2.2.2.2.2.2.2.2.1 v0.2.2.2.2.2.2.2.2.2.2.2.1 v0.2.2.2.2.2.2.2.2.2.2.2.2.1 v0.2.2.2.2.2.2.2.2.2.2.2.2.2.1 v0.2.2.2.2.2.2.2.2.2.2.2.2.2.2.1 v0.2.2.2.2.2.2.2.2.2.2.2.2.2.2.2.1 v0.2.2.2.2.2.2.2.2.2.2.2.2.2.2.2.2) (PI (fun u : ModV => wMod G a0 u.1 u.2.1 u.2.2.1 u.2.2.2.1 u.2.2.2.2.1 u.2.2.2.2.2.1 u.2.2.2.2.2.2.1 u.2.2.2.2.2.2.2.1 u.2.2.2.2.2.2.2.2.1 u.2.2.2.2.2.2.2.2.2.1 u.2.2.2.2.2.2.2.2.2.2.1 u.2.2.2.2.2.2.2.2.2.2.2.1 u.2.2.2.2.2.2.2.2.2.2.2.2.1 u.2.2.2.2.2.2.2.2.2.2.2.2.2.1 u.2.2.2.2.2.2.2.2.2.2.2.2.2.2.1 u.2.2.2.2.2.2.2.2.2.2.2.2.2.2.2.1 u.2.2.2.2.2.2.2.2.2.2.2.2.2.2.2.2) Q) 0 0 := by
  refine con_of RX9 rfl (by decide) [(0, .ref a0.1), (1, .int i0), (2, .int i1)] rfl (Nat.le_of_ble_eq_true rfl) ?_
  intro p e s m args below meth c S hname
  refine v_aload_n (pc2 := 1) S 0 dX9_takesOne_0 rfl rfl rfl ?_
  refine v_iload_n (pc2 := 2) S 1 dX9_takesOne_1 rfl rfl rfl ?_
  refine v_iload_n (pc2 := 3) S 2 dX9_takesOne_2 rfl rfl rfl ?_
  refine v_callV (pc2 := 6) (As := [.int i0, .int i1]) (rest := []) S (c_X9_sees l G a0 v0 i0 i1 _ hw) mf_X9_sees u_1010 u_1012 u_47 0 9 rfl rfl rfl rfl ⟨rfl, rfl⟩ ⟨Nat.le_of_ble_eq_true rfl, Nat.le_of_ble_eq_true rfl⟩ ⟨Nat.le_of_ble_eq_true rfl, Nat.le_of_ble_eq_true rfl⟩ (Nat.le_of_ble_eq_true rfl) dX9_takesOne_3 (frW _) rfl (pb (fun r1 u2 br1 hw => ?_))
  refine v_to (wMod G a0 v0.1 v0.2.1 v0.2.2.1 v0.2.2.2.1 v0.2.2.2.2.1 v0.2.2.2.2.2.1 v0.2.2.2.2.2.2.1 v0.2.2.2.2.2.2.2.1 v0.2.2.2.2.2.2.2.2.1 v0.2.2.2.2.2.2.2.2.2.1 v0.2.2.2.2.2.2.2.2.2.2.1 v0.2.2.2.2.2.2.2.2.2.2.2.1 v0.2.2.2.2.2.2.2.2.2.2.2.2.1 v0.2.2.2.2.2.2.2.2.2.2.2.2.2.1 v0.2.2.2.2.2.2.2.2.2.2.2.2.2.2.1 v0.2.2.2.2.2.2.2.2.2.2.2.2.2.2.2.1 v0.2.2.2.2.2.2.2.2.2.2.2.2.2.2.2.2) 6 [(0, .ref a0.1), (1, .int i0), (2, .int i1)] _ [.int r1] rfl rfl rfl rfl ?_
  refine v_if_ne (pc2 := 9) (tgt := 12) S dX9_takesOne_6 (by decide) rfl (fun c3 => ?_) (fun c3 => ?_)
  · have hw := hw.1 c3
    refine v_aload_n (pc2 := 13) S 0 dX9_takesOne_12 rfl rfl rfl ?_
    refine v_dup (pc2 := 14) S dX9_takesOne_13 rfl rfl ?_
    refine v_get (v := .int v0.2.2.2.2.2.2.2.2.2.2.2.1) (pc2 := 17) S gf_X9_154 0 rfl rfl dX9_takesOne_14 rfl ?_
    refine v_iconst (v := 1) (pc2 := 18) S dX9_takesOne_17 (by decide) rfl ?_
    refine v_iadd (pc2 := 19) S dX9_takesOne_18 rfl ?_
    refine v_nm (fun z4 ez4 => ?_)
    have hw := hw z4 ez4
    refine v_put (ws2 := wMod G a0 v0.1 v0.2.1 v0.2.2.1 v0.2.2.2.1 v0.2.2.2.2.1 v0.2.2.2.2.2.1 v0.2.2.2.2.2.2.1 v0.2.2.2.2.2.2.2.1 v0.2.2.2.2.2.2.2.2.1 v0.2.2.2.2.2.2.2.2.2.1 v0.2.2.2.2.2.2.2.2.2.2.1 z4 v0.2.2.2.2.2.2.2.2.2.2.2.2.1 v0.2.2.2.2.2.2.2.2.2.2.2.2.2.1 v0.2.2.2.2.2.2.2.2.2.2.2.2.2.2.1 v0.2.2.2.2.2.2.2.2.2.2.2.2.2.2.2.1 v0.2.2.2.2.2.2.2.2.2.2.2.2.2.2.2.2) (pc2 := 22) S gf_X9_154 pf_X9_11 0 rfl rfl rfl (Nat.le_of_ble_eq_true rfl) rfl dX9_takesOne_19 rfl ?_
    refine v_aload_n (pc2 := 23) S 0 dX9_takesOne_22 rfl rfl rfl ?_
    refine v_get (v := .ref a0.2.2.2.2.2.1) (pc2 := 26) S gf_X9_22 0 rfl rfl dX9_takesOne_23 rfl ?_
    refine v_aload_n (pc2 := 27) S 0 dX9_takesOne_26 rfl rfl rfl ?_
    refine v_get (v := .int z4) (pc2 := 30) S gf_X9_154 0 rfl rfl dX9_takesOne_27 rfl ?_
    refine v_iconst (v := 1) (pc2 := 31) S dX9_takesOne_30 (by decide) rfl ?_
    refine v_isub (pc2 := 32) S dX9_takesOne_31 rfl ?_
    obtain ⟨h5, hw⟩ := hw
    refine v_iald (pc2 := 33) S 5 rfl h5 dX9_takesOne_32 rfl ?_
    exact v_iret S ⟨v0.2.2.2.2.2.2.1 (z4 - (1 : Int32)).toNatClampNeg, (v0.1, v0.2.1, v0.2.2.1, v0.2.2.2.1, v0.2.2.2.2.1, v0.2.2.2.2.2.1, v0.2.2.2.2.2.2.1, v0.2.2.2.2.2.2.2.1, v0.2.2.2.2.2.2.2.2.1, v0.2.2.2.2.2.2.2.2.2.1, v0.2.2.2.2.2.2.2.2.2.2.1, z4, v0.2.2.2.2.2.2.2.2.2.2.2.2.1, v0.2.2.2.2.2.2.2.2.2.2.2.2.2.1, v0.2.2.2.2.2.2.2.2.2.2.2.2.2.2.1, v0.2.2.2.2.2.2.2.2.2.2.2.2.2.2.2.1, v0.2.2.2.2.2.2.2.2.2.2.2.2.2.2.2.2), rfl, rfl, hw⟩ dX9_takesOne_33
  · have hw := hw.2 c3
    refine v_bipush (v := -4) (pc2 := 11) S dX9_takesOne_9 (by decide) rfl ?_
    exact v_iret S ⟨(-4 : Int32), v0, rfl, rfl, hw⟩ dX9_takesOne_11
set_option maxHeartbeats 4000000 in
set_option maxRecDepth 100000 in
theorem c_X9_readDeed (l : Launch) (G : GG) (a0 : ModA) (v0 : ModV) (Q : Int32 → ModV → Prop) (hw : wp_X9_readDeed v0 Q) : Con l G yX9_readDeed cX9_readDeed 5 (some .boolean) { frames := 3, cells := 0, slots := 0, locals := 66 } [.ref a0.1] (wMod G a0 v0.1 v0.2.1 v0.2.2.1 v0.2.2.2.1 v0.2.2.2.2.1 v0.2.2.2.2.2.1 v0.2.2.2.2.2.2.1 v0.2.2.2.2.2.2.2.1 v0.2.2.2.2.2.2.2.2.1 v0.2.2.2.2.2.2.2.2.2.1 v0.2.2.2.2.2.2.2.2.2.2.1 v0.2.2.2.2.2.2.2.2.2.2.2.1 v0.2.2.2.2.2.2.2.2.2.2.2.2.1 v0.2.2.2.2.2.2.2.2.2.2.2.2.2.1 v0.2.2.2.2.2.2.2.2.2.2.2.2.2.2.1 v0.2.2.2.2.2.2.2.2.2.2.2.2.2.2.2.1 v0.2.2.2.2.2.2.2.2.2.2.2.2.2.2.2.2) (PB (fun u : ModV => wMod G a0 u.1 u.2.1 u.2.2.1 u.2.2.2.1 u.2.2.2.2.1 u.2.2.2.2.2.1 u.2.2.2.2.2.2.1 u.2.2.2.2.2.2.2.1 u.2.2.2.2.2.2.2.2.1 u.2.2.2.2.2.2.2.2.2.1 u.2.2.2.2.2.2.2.2.2.2.1 u.2.2.2.2.2.2.2.2.2.2.2.1 u.2.2.2.2.2.2.2.2.2.2.2.2.1 u.2.2.2.2.2.2.2.2.2.2.2.2.2.1 u.2.2.2.2.2.2.2.2.2.2.2.2.2.2.1 u.2.2.2.2.2.2.2.2.2.2.2.2.2.2.2.1 u.2.2.2.2.2.2.2.2.2.2.2.2.2.2.2.2) Q) 0 0 := by
  refine con_of RX9 rfl (by decide) [(0, .ref a0.1)] rfl (Nat.le_of_ble_eq_true rfl) ?_
  intro p e s m args below meth c S hname
  have B109 : ∀ (x1 : Int32) (t0 : Int32) (w0 : ModV), wp_X9_readDeed_B109 x1 t0 w0 Q → V p l e { frames := 3, cells := 0, slots := 0, locals := 66 } s m args below meth c G (va_A (wMod G a0 v0.1 v0.2.1 v0.2.2.1 v0.2.2.2.1 v0.2.2.2.2.1 v0.2.2.2.2.2.1 v0.2.2.2.2.2.2.1 v0.2.2.2.2.2.2.2.1 v0.2.2.2.2.2.2.2.2.1 v0.2.2.2.2.2.2.2.2.2.1 v0.2.2.2.2.2.2.2.2.2.2.1 v0.2.2.2.2.2.2.2.2.2.2.2.1 v0.2.2.2.2.2.2.2.2.2.2.2.2.1 v0.2.2.2.2.2.2.2.2.2.2.2.2.2.1 v0.2.2.2.2.2.2.2.2.2.2.2.2.2.2.1 v0.2.2.2.2.2.2.2.2.2.2.2.2.2.2.2.1 v0.2.2.2.2.2.2.2.2.2.2.2.2.2.2.2.2) s.heap.size) 5 0 0 (MQ below (EQ G (wMod G a0 v0.1 v0.2.1 v0.2.2.1 v0.2.2.2.1 v0.2.2.2.2.1 v0.2.2.2.2.2.1 v0.2.2.2.2.2.2.1 v0.2.2.2.2.2.2.2.1 v0.2.2.2.2.2.2.2.2.1 v0.2.2.2.2.2.2.2.2.2.1 v0.2.2.2.2.2.2.2.2.2.2.1 v0.2.2.2.2.2.2.2.2.2.2.2.1 v0.2.2.2.2.2.2.2.2.2.2.2.2.1 v0.2.2.2.2.2.2.2.2.2.2.2.2.2.1 v0.2.2.2.2.2.2.2.2.2.2.2.2.2.2.1 v0.2.2.2.2.2.2.2.2.2.2.2.2.2.2.2.1 v0.2.2.2.2.2.2.2.2.2.2.2.2.2.2.2.2) s.heap.size (PB (fun u : ModV => wMod G a0 u.1 u.2.1 u.2.2.1 u.2.2.2.1 u.2.2.2.2.1 u.2.2.2.2.2.1 u.2.2.2.2.2.2.1 u.2.2.2.2.2.2.2.1 u.2.2.2.2.2.2.2.2.1 u.2.2.2.2.2.2.2.2.2.1 u.2.2.2.2.2.2.2.2.2.2.1 u.2.2.2.2.2.2.2.2.2.2.2.1 u.2.2.2.2.2.2.2.2.2.2.2.2.1 u.2.2.2.2.2.2.2.2.2.2.2.2.2.1 u.2.2.2.2.2.2.2.2.2.2.2.2.2.2.1 u.2.2.2.2.2.2.2.2.2.2.2.2.2.2.2.1 u.2.2.2.2.2.2.2.2.2.2.2.2.2.2.2.2) Q)) args s 0 0 (va_A (wMod G a0 v0.1 v0.2.1 v0.2.2.1 v0.2.2.2.1 v0.2.2.2.2.1 v0.2.2.2.2.2.1 v0.2.2.2.2.2.2.1 v0.2.2.2.2.2.2.2.1 v0.2.2.2.2.2.2.2.2.1 v0.2.2.2.2.2.2.2.2.2.1 v0.2.2.2.2.2.2.2.2.2.2.1 v0.2.2.2.2.2.2.2.2.2.2.2.1 v0.2.2.2.2.2.2.2.2.2.2.2.2.1 v0.2.2.2.2.2.2.2.2.2.2.2.2.2.1 v0.2.2.2.2.2.2.2.2.2.2.2.2.2.2.1 v0.2.2.2.2.2.2.2.2.2.2.2.2.2.2.2.1 v0.2.2.2.2.2.2.2.2.2.2.2.2.2.2.2.2) s.heap.size)) (wMod G a0 w0.1 w0.2.1 w0.2.2.1 w0.2.2.2.1 w0.2.2.2.2.1 w0.2.2.2.2.2.1 w0.2.2.2.2.2.2.1 w0.2.2.2.2.2.2.2.1 w0.2.2.2.2.2.2.2.2.1 w0.2.2.2.2.2.2.2.2.2.1 w0.2.2.2.2.2.2.2.2.2.2.1 w0.2.2.2.2.2.2.2.2.2.2.2.1 w0.2.2.2.2.2.2.2.2.2.2.2.2.1 w0.2.2.2.2.2.2.2.2.2.2.2.2.2.1 w0.2.2.2.2.2.2.2.2.2.2.2.2.2.2.1 w0.2.2.2.2.2.2.2.2.2.2.2.2.2.2.2.1 w0.2.2.2.2.2.2.2.2.2.2.2.2.2.2.2.2) 109 [(0, .ref a0.1), (1, .int x1)] [.int t0] := by
    intro x1 t0 w0 hw
    refine v_istore_n (lv2 := [(0, .ref a0.1), (1, .int x1), (3, .int t0)]) (pc2 := 110) S dX9_readDeed_109 rfl (by decide) [1, 2, 0] rfl rfl ?_
    refine v_iload_n (pc2 := 111) S 2 dX9_readDeed_110 rfl rfl rfl ?_
    refine v_if_ne (pc2 := 114) (tgt := 116) S dX9_readDeed_111 (by decide) rfl (fun c12 => ?_) (fun c12 => ?_)
    · have hw := hw.1 c12
      refine v_aload_n (pc2 := 117) S 0 dX9_readDeed_116 rfl rfl rfl ?_
      refine v_get (v := .ref a0.2.2.2.2.2.2.1) (pc2 := 120) S gf_X9_35 0 rfl rfl dX9_readDeed_117 rfl ?_
      refine v_iload_n (pc2 := 121) S 1 dX9_readDeed_120 rfl rfl rfl ?_
      refine v_iconst (v := 1) (pc2 := 122) S dX9_readDeed_121 (by decide) rfl ?_
      refine v_iadd (pc2 := 123) S dX9_readDeed_122 rfl ?_
      refine v_aload_n (pc2 := 124) S 0 dX9_readDeed_123 rfl rfl rfl ?_
      refine v_get (v := .ref a0.2.2.2.2.2.1) (pc2 := 127) S gf_X9_22 0 rfl rfl dX9_readDeed_124 rfl ?_
      refine v_aload_n (pc2 := 128) S 0 dX9_readDeed_127 rfl rfl rfl ?_
      refine v_get (v := .int w0.2.2.2.2.2.2.2.2.2.2.2.1) (pc2 := 131) S gf_X9_154 0 rfl rfl dX9_readDeed_128 rfl ?_
      obtain ⟨h13, hw⟩ := hw
      refine v_iald (pc2 := 132) S 5 rfl h13 dX9_readDeed_131 rfl ?_
      obtain ⟨h14, hw⟩ := hw
      obtain ⟨g15, eg15⟩ : ∃ y : Nat → Int32, y = upd w0.2.2.2.2.2.2.2.2.2.2.2.2.1 (x1 + (1 : Int32)).toNatClampNeg (w0.2.2.2.2.2.2.1 w0.2.2.2.2.2.2.2.2.2.2.2.1.toNatClampNeg) := ⟨_, rfl⟩
      have hw := hw g15 eg15
      refine v_iast (ws2 := wMod G a0 w0.1 w0.2.1 w0.2.2.1 w0.2.2.2.1 w0.2.2.2.2.1 w0.2.2.2.2.2.1 w0.2.2.2.2.2.2.1 w0.2.2.2.2.2.2.2.1 w0.2.2.2.2.2.2.2.2.1 w0.2.2.2.2.2.2.2.2.2.1 w0.2.2.2.2.2.2.2.2.2.2.1 w0.2.2.2.2.2.2.2.2.2.2.2.1 g15 w0.2.2.2.2.2.2.2.2.2.2.2.2.2.1 w0.2.2.2.2.2.2.2.2.2.2.2.2.2.2.1 w0.2.2.2.2.2.2.2.2.2.2.2.2.2.2.2.1 w0.2.2.2.2.2.2.2.2.2.2.2.2.2.2.2.2) (pc2 := 133) S 6 rfl h14 (by rw [eg15] <;> rfl) dX9_readDeed_132 rfl ?_
      refine v_aload_n (pc2 := 134) S 0 dX9_readDeed_133 rfl rfl rfl ?_
      refine v_dup (pc2 := 135) S dX9_readDeed_134 rfl rfl ?_
      refine v_get (v := .int w0.2.2.2.2.2.2.2.2.2.2.2.1) (pc2 := 138) S gf_X9_154 0 rfl rfl dX9_readDeed_135 rfl ?_
      refine v_iconst (v := 1) (pc2 := 139) S dX9_readDeed_138 (by decide) rfl ?_
      refine v_iadd (pc2 := 140) S dX9_readDeed_139 rfl ?_
      refine v_nm (fun z16 ez16 => ?_)
      have hw := hw z16 ez16
      refine v_put (ws2 := wMod G a0 w0.1 w0.2.1 w0.2.2.1 w0.2.2.2.1 w0.2.2.2.2.1 w0.2.2.2.2.2.1 w0.2.2.2.2.2.2.1 w0.2.2.2.2.2.2.2.1 w0.2.2.2.2.2.2.2.2.1 w0.2.2.2.2.2.2.2.2.2.1 w0.2.2.2.2.2.2.2.2.2.2.1 z16 g15 w0.2.2.2.2.2.2.2.2.2.2.2.2.2.1 w0.2.2.2.2.2.2.2.2.2.2.2.2.2.2.1 w0.2.2.2.2.2.2.2.2.2.2.2.2.2.2.2.1 w0.2.2.2.2.2.2.2.2.2.2.2.2.2.2.2.2) (pc2 := 143) S gf_X9_154 pf_X9_11 0 rfl rfl rfl (Nat.le_of_ble_eq_true rfl) rfl dX9_readDeed_140 rfl ?_
      refine v_aload_n (pc2 := 144) S 0 dX9_readDeed_143 rfl rfl rfl ?_
      refine v_bipush (v := 48) (pc2 := 146) S dX9_readDeed_144 (by decide) rfl ?_
      refine v_bipush (v := 57) (pc2 := 148) S dX9_readDeed_146 (by decide) rfl ?_
      refine v_callV (pc2 := 151) (As := [.int (48 : Int32), .int (57 : Int32)]) (rest := []) S (c_X9_takesOne l G a0 (w0.1, w0.2.1, w0.2.2.1, w0.2.2.2.1, w0.2.2.2.2.1, w0.2.2.2.2.2.1, w0.2.2.2.2.2.2.1, w0.2.2.2.2.2.2.2.1, w0.2.2.2.2.2.2.2.2.1, w0.2.2.2.2.2.2.2.2.2.1, w0.2.2.2.2.2.2.2.2.2.2.1, z16, g15, w0.2.2.2.2.2.2.2.2.2.2.2.2.2.1, w0.2.2.2.2.2.2.2.2.2.2.2.2.2.2.1, w0.2.2.2.2.2.2.2.2.2.2.2.2.2.2.2.1, w0.2.2.2.2.2.2.2.2.2.2.2.2.2.2.2.2) (48 : Int32) (57 : Int32) _ hw) mf_X9_takesOne u_1014 u_1016 u_48 0 9 rfl rfl rfl rfl ⟨rfl, rfl⟩ ⟨Nat.le_of_ble_eq_true rfl, Nat.le_of_ble_eq_true rfl⟩ ⟨Nat.le_of_ble_eq_true rfl, Nat.le_of_ble_eq_true rfl⟩ (Nat.le_of_ble_eq_true rfl) dX9_readDeed_148 (frW _) rfl (pi (fun r17 u18 hw => ?_))
      refine v_to (wMod G a0 u18.1 u18.2.1 u18.2.2.1 u18.2.2.2.1 u18.2.2.2.2.1 u18.2.2.2.2.2.1 u18.2.2.2.2.2.2.1 u18.2.2.2.2.2.2.2.1 u18.2.2.2.2.2.2.2.2.1 u18.2.2.2.2.2.2.2.2.2.1 u18.2.2.2.2.2.2.2.2.2.2.1 u18.2.2.2.2.2.2.2.2.2.2.2.1 u18.2.2.2.2.2.2.2.2.2.2.2.2.1 u18.2.2.2.2.2.2.2.2.2.2.2.2.2.1 u18.2.2.2.2.2.2.2.2.2.2.2.2.2.2.1 u18.2.2.2.2.2.2.2.2.2.2.2.2.2.2.2.1 u18.2.2.2.2.2.2.2.2.2.2.2.2.2.2.2.2) 151 [(0, .ref a0.1), (1, .int x1), (3, .int t0)] _ [.int r17] rfl rfl rfl rfl ?_
      refine v_istore (lv2 := [(0, .ref a0.1), (1, .int x1), (3, .int t0), (4, .int r17)]) (pc2 := 153) S dX9_readDeed_151 (by decide) [1, 2, 3, 0] rfl rfl ?_
      refine v_aload_n (pc2 := 154) S 0 dX9_readDeed_153 rfl rfl rfl ?_
      refine v_get (v := .ref a0.2.2.2.2.2.2.1) (pc2 := 157) S gf_X9_35 0 rfl rfl dX9_readDeed_154 rfl ?_
      refine v_iload_n (pc2 := 158) S 1 dX9_readDeed_157 rfl rfl rfl ?_
      refine v_iconst (v := 3) (pc2 := 159) S dX9_readDeed_158 (by decide) rfl ?_
      refine v_iadd (pc2 := 160) S dX9_readDeed_159 rfl ?_
      refine v_iload (pc2 := 162) S 3 dX9_readDeed_160 rfl rfl ?_
      refine v_bipush (v := 48) (pc2 := 164) S dX9_readDeed_162 (by decide) rfl ?_
      refine v_isub (pc2 := 165) S dX9_readDeed_164 rfl ?_
      obtain ⟨h19, hw⟩ := hw
      obtain ⟨g20, eg20⟩ : ∃ y : Nat → Int32, y = upd u18.2.2.2.2.2.2.2.2.2.2.2.2.1 (x1 + (3 : Int32)).toNatClampNeg (r17 - (48 : Int32)) := ⟨_, rfl⟩
      have hw := hw g20 eg20
      refine v_iast (ws2 := wMod G a0 u18.1 u18.2.1 u18.2.2.1 u18.2.2.2.1 u18.2.2.2.2.1 u18.2.2.2.2.2.1 u18.2.2.2.2.2.2.1 u18.2.2.2.2.2.2.2.1 u18.2.2.2.2.2.2.2.2.1 u18.2.2.2.2.2.2.2.2.2.1 u18.2.2.2.2.2.2.2.2.2.2.1 u18.2.2.2.2.2.2.2.2.2.2.2.1 g20 u18.2.2.2.2.2.2.2.2.2.2.2.2.2.1 u18.2.2.2.2.2.2.2.2.2.2.2.2.2.2.1 u18.2.2.2.2.2.2.2.2.2.2.2.2.2.2.2.1 u18.2.2.2.2.2.2.2.2.2.2.2.2.2.2.2.2) (pc2 := 166) S 6 rfl h19 (by rw [eg20] <;> rfl) dX9_readDeed_165 rfl ?_
      refine v_aload_n (pc2 := 167) S 0 dX9_readDeed_166 rfl rfl rfl ?_
      refine v_dup (pc2 := 168) S dX9_readDeed_167 rfl rfl ?_
      refine v_get (v := .int u18.2.2.2.2.2.2.2.2.2.2.2.2.2.1) (pc2 := 171) S gf_X9_160 0 rfl rfl dX9_readDeed_168 rfl ?_
      refine v_iconst (v := 1) (pc2 := 172) S dX9_readDeed_171 (by decide) rfl ?_
      refine v_iadd (pc2 := 173) S dX9_readDeed_172 rfl ?_
      refine v_nm (fun z21 ez21 => ?_)
      have hw := hw z21 ez21
      refine v_put (ws2 := wMod G a0 u18.1 u18.2.1 u18.2.2.1 u18.2.2.2.1 u18.2.2.2.2.1 u18.2.2.2.2.2.1 u18.2.2.2.2.2.2.1 u18.2.2.2.2.2.2.2.1 u18.2.2.2.2.2.2.2.2.1 u18.2.2.2.2.2.2.2.2.2.1 u18.2.2.2.2.2.2.2.2.2.2.1 u18.2.2.2.2.2.2.2.2.2.2.2.1 g20 z21 u18.2.2.2.2.2.2.2.2.2.2.2.2.2.2.1 u18.2.2.2.2.2.2.2.2.2.2.2.2.2.2.2.1 u18.2.2.2.2.2.2.2.2.2.2.2.2.2.2.2.2) (pc2 := 176) S gf_X9_160 pf_X9_13 0 rfl rfl rfl (Nat.le_of_ble_eq_true rfl) rfl dX9_readDeed_173 rfl ?_
      refine v_iload (pc2 := 178) S 3 dX9_readDeed_176 rfl rfl ?_
      refine v_bipush (v := -4) (pc2 := 180) S dX9_readDeed_178 (by decide) rfl ?_
      refine v_icmp_eq (pc2 := 183) (tgt := 187) S dX9_readDeed_180 (by decide) rfl (fun c22 => ?_) (fun c22 => ?_)
      · have hw := hw.1 c22
        refine v_iconst (v := 0) (pc2 := 188) S dX9_readDeed_187 (by decide) rfl ?_
        exact v_zret S (by decide) ⟨(0 : Int32), (u18.1, u18.2.1, u18.2.2.1, u18.2.2.2.1, u18.2.2.2.2.1, u18.2.2.2.2.2.1, u18.2.2.2.2.2.2.1, u18.2.2.2.2.2.2.2.1, u18.2.2.2.2.2.2.2.2.1, u18.2.2.2.2.2.2.2.2.2.1, u18.2.2.2.2.2.2.2.2.2.2.1, u18.2.2.2.2.2.2.2.2.2.2.2.1, g20, z21, u18.2.2.2.2.2.2.2.2.2.2.2.2.2.2.1, u18.2.2.2.2.2.2.2.2.2.2.2.2.2.2.2.1, u18.2.2.2.2.2.2.2.2.2.2.2.2.2.2.2.2), rfl, (by decide), rfl, hw⟩ dX9_readDeed_188
      · have hw := hw.2 c22
        refine v_iconst (v := 1) (pc2 := 184) S dX9_readDeed_183 (by decide) rfl ?_
        refine v_goto (tgt := 188) S dX9_readDeed_184 (by decide) ?_
        exact v_zret S (by decide) ⟨(1 : Int32), (u18.1, u18.2.1, u18.2.2.1, u18.2.2.2.1, u18.2.2.2.2.1, u18.2.2.2.2.2.1, u18.2.2.2.2.2.2.1, u18.2.2.2.2.2.2.2.1, u18.2.2.2.2.2.2.2.2.1, u18.2.2.2.2.2.2.2.2.2.1, u18.2.2.2.2.2.2.2.2.2.2.1, u18.2.2.2.2.2.2.2.2.2.2.2.1, g20, z21, u18.2.2.2.2.2.2.2.2.2.2.2.2.2.2.1, u18.2.2.2.2.2.2.2.2.2.2.2.2.2.2.2.1, u18.2.2.2.2.2.2.2.2.2.2.2.2.2.2.2.2), rfl, (by decide), rfl, hw⟩ dX9_readDeed_188
    · have hw := hw.2 c12
      refine v_iconst (v := 0) (pc2 := 115) S dX9_readDeed_114 (by decide) rfl ?_
      exact v_zret S (by decide) ⟨(0 : Int32), w0, rfl, (by decide), rfl, hw⟩ dX9_readDeed_115
  have B104 : ∀ (x1 : Int32) (w0 : ModV), wp_X9_readDeed_B104 x1 w0 Q → V p l e { frames := 3, cells := 0, slots := 0, locals := 66 } s m args below meth c G (va_A (wMod G a0 v0.1 v0.2.1 v0.2.2.1 v0.2.2.2.1 v0.2.2.2.2.1 v0.2.2.2.2.2.1 v0.2.2.2.2.2.2.1 v0.2.2.2.2.2.2.2.1 v0.2.2.2.2.2.2.2.2.1 v0.2.2.2.2.2.2.2.2.2.1 v0.2.2.2.2.2.2.2.2.2.2.1 v0.2.2.2.2.2.2.2.2.2.2.2.1 v0.2.2.2.2.2.2.2.2.2.2.2.2.1 v0.2.2.2.2.2.2.2.2.2.2.2.2.2.1 v0.2.2.2.2.2.2.2.2.2.2.2.2.2.2.1 v0.2.2.2.2.2.2.2.2.2.2.2.2.2.2.2.1 v0.2.2.2.2.2.2.2.2.2.2.2.2.2.2.2.2) s.heap.size) 5 0 0 (MQ below (EQ G (wMod G a0 v0.1 v0.2.1 v0.2.2.1 v0.2.2.2.1 v0.2.2.2.2.1 v0.2.2.2.2.2.1 v0.2.2.2.2.2.2.1 v0.2.2.2.2.2.2.2.1 v0.2.2.2.2.2.2.2.2.1 v0.2.2.2.2.2.2.2.2.2.1 v0.2.2.2.2.2.2.2.2.2.2.1 v0.2.2.2.2.2.2.2.2.2.2.2.1 v0.2.2.2.2.2.2.2.2.2.2.2.2.1 v0.2.2.2.2.2.2.2.2.2.2.2.2.2.1 v0.2.2.2.2.2.2.2.2.2.2.2.2.2.2.1 v0.2.2.2.2.2.2.2.2.2.2.2.2.2.2.2.1 v0.2.2.2.2.2.2.2.2.2.2.2.2.2.2.2.2) s.heap.size (PB (fun u : ModV => wMod G a0 u.1 u.2.1 u.2.2.1 u.2.2.2.1 u.2.2.2.2.1 u.2.2.2.2.2.1 u.2.2.2.2.2.2.1 u.2.2.2.2.2.2.2.1 u.2.2.2.2.2.2.2.2.1 u.2.2.2.2.2.2.2.2.2.1 u.2.2.2.2.2.2.2.2.2.2.1 u.2.2.2.2.2.2.2.2.2.2.2.1 u.2.2.2.2.2.2.2.2.2.2.2.2.1 u.2.2.2.2.2.2.2.2.2.2.2.2.2.1 u.2.2.2.2.2.2.2.2.2.2.2.2.2.2.1 u.2.2.2.2.2.2.2.2.2.2.2.2.2.2.2.1 u.2.2.2.2.2.2.2.2.2.2.2.2.2.2.2.2) Q)) args s 0 0 (va_A (wMod G a0 v0.1 v0.2.1 v0.2.2.1 v0.2.2.2.1 v0.2.2.2.2.1 v0.2.2.2.2.2.1 v0.2.2.2.2.2.2.1 v0.2.2.2.2.2.2.2.1 v0.2.2.2.2.2.2.2.2.1 v0.2.2.2.2.2.2.2.2.2.1 v0.2.2.2.2.2.2.2.2.2.2.1 v0.2.2.2.2.2.2.2.2.2.2.2.1 v0.2.2.2.2.2.2.2.2.2.2.2.2.1 v0.2.2.2.2.2.2.2.2.2.2.2.2.2.1 v0.2.2.2.2.2.2.2.2.2.2.2.2.2.2.1 v0.2.2.2.2.2.2.2.2.2.2.2.2.2.2.2.1 v0.2.2.2.2.2.2.2.2.2.2.2.2.2.2.2.2) s.heap.size)) (wMod G a0 w0.1 w0.2.1 w0.2.2.1 w0.2.2.2.1 w0.2.2.2.2.1 w0.2.2.2.2.2.1 w0.2.2.2.2.2.2.1 w0.2.2.2.2.2.2.2.1 w0.2.2.2.2.2.2.2.2.1 w0.2.2.2.2.2.2.2.2.2.1 w0.2.2.2.2.2.2.2.2.2.2.1 w0.2.2.2.2.2.2.2.2.2.2.2.1 w0.2.2.2.2.2.2.2.2.2.2.2.2.1 w0.2.2.2.2.2.2.2.2.2.2.2.2.2.1 w0.2.2.2.2.2.2.2.2.2.2.2.2.2.2.1 w0.2.2.2.2.2.2.2.2.2.2.2.2.2.2.2.1 w0.2.2.2.2.2.2.2.2.2.2.2.2.2.2.2.2) 104 [(0, .ref a0.1), (1, .int x1)] [] := by
    intro x1 w0 hw
    refine v_iconst (v := 1) (pc2 := 105) S dX9_readDeed_104 (by decide) rfl ?_
    refine v_goto (tgt := 109) S dX9_readDeed_105 (by decide) ?_
    exact B109 x1 (1 : Int32) w0 hw
  have B108 : ∀ (x1 : Int32) (w0 : ModV), wp_X9_readDeed_B108 x1 w0 Q → V p l e { frames := 3, cells := 0, slots := 0, locals := 66 } s m args below meth c G (va_A (wMod G a0 v0.1 v0.2.1 v0.2.2.1 v0.2.2.2.1 v0.2.2.2.2.1 v0.2.2.2.2.2.1 v0.2.2.2.2.2.2.1 v0.2.2.2.2.2.2.2.1 v0.2.2.2.2.2.2.2.2.1 v0.2.2.2.2.2.2.2.2.2.1 v0.2.2.2.2.2.2.2.2.2.2.1 v0.2.2.2.2.2.2.2.2.2.2.2.1 v0.2.2.2.2.2.2.2.2.2.2.2.2.1 v0.2.2.2.2.2.2.2.2.2.2.2.2.2.1 v0.2.2.2.2.2.2.2.2.2.2.2.2.2.2.1 v0.2.2.2.2.2.2.2.2.2.2.2.2.2.2.2.1 v0.2.2.2.2.2.2.2.2.2.2.2.2.2.2.2.2) s.heap.size) 5 0 0 (MQ below (EQ G (wMod G a0 v0.1 v0.2.1 v0.2.2.1 v0.2.2.2.1 v0.2.2.2.2.1 v0.2.2.2.2.2.1 v0.2.2.2.2.2.2.1 v0.2.2.2.2.2.2.2.1 v0.2.2.2.2.2.2.2.2.1 v0.2.2.2.2.2.2.2.2.2.1 v0.2.2.2.2.2.2.2.2.2.2.1 v0.2.2.2.2.2.2.2.2.2.2.2.1 v0.2.2.2.2.2.2.2.2.2.2.2.2.1 v0.2.2.2.2.2.2.2.2.2.2.2.2.2.1 v0.2.2.2.2.2.2.2.2.2.2.2.2.2.2.1 v0.2.2.2.2.2.2.2.2.2.2.2.2.2.2.2.1 v0.2.2.2.2.2.2.2.2.2.2.2.2.2.2.2.2) s.heap.size (PB (fun u : ModV => wMod G a0 u.1 u.2.1 u.2.2.1 u.2.2.2.1 u.2.2.2.2.1 u.2.2.2.2.2.1 u.2.2.2.2.2.2.1 u.2.2.2.2.2.2.2.1 u.2.2.2.2.2.2.2.2.1 u.2.2.2.2.2.2.2.2.2.1 u.2.2.2.2.2.2.2.2.2.2.1 u.2.2.2.2.2.2.2.2.2.2.2.1 u.2.2.2.2.2.2.2.2.2.2.2.2.1 u.2.2.2.2.2.2.2.2.2.2.2.2.2.1 u.2.2.2.2.2.2.2.2.2.2.2.2.2.2.1 u.2.2.2.2.2.2.2.2.2.2.2.2.2.2.2.1 u.2.2.2.2.2.2.2.2.2.2.2.2.2.2.2.2) Q)) args s 0 0 (va_A (wMod G a0 v0.1 v0.2.1 v0.2.2.1 v0.2.2.2.1 v0.2.2.2.2.1 v0.2.2.2.2.2.1 v0.2.2.2.2.2.2.1 v0.2.2.2.2.2.2.2.1 v0.2.2.2.2.2.2.2.2.1 v0.2.2.2.2.2.2.2.2.2.1 v0.2.2.2.2.2.2.2.2.2.2.1 v0.2.2.2.2.2.2.2.2.2.2.2.1 v0.2.2.2.2.2.2.2.2.2.2.2.2.1 v0.2.2.2.2.2.2.2.2.2.2.2.2.2.1 v0.2.2.2.2.2.2.2.2.2.2.2.2.2.2.1 v0.2.2.2.2.2.2.2.2.2.2.2.2.2.2.2.1 v0.2.2.2.2.2.2.2.2.2.2.2.2.2.2.2.2) s.heap.size)) (wMod G a0 w0.1 w0.2.1 w0.2.2.1 w0.2.2.2.1 w0.2.2.2.2.1 w0.2.2.2.2.2.1 w0.2.2.2.2.2.2.1 w0.2.2.2.2.2.2.2.1 w0.2.2.2.2.2.2.2.2.1 w0.2.2.2.2.2.2.2.2.2.1 w0.2.2.2.2.2.2.2.2.2.2.1 w0.2.2.2.2.2.2.2.2.2.2.2.1 w0.2.2.2.2.2.2.2.2.2.2.2.2.1 w0.2.2.2.2.2.2.2.2.2.2.2.2.2.1 w0.2.2.2.2.2.2.2.2.2.2.2.2.2.2.1 w0.2.2.2.2.2.2.2.2.2.2.2.2.2.2.2.1 w0.2.2.2.2.2.2.2.2.2.2.2.2.2.2.2.2) 108 [(0, .ref a0.1), (1, .int x1)] [] := by
    intro x1 w0 hw
    refine v_iconst (v := 0) (pc2 := 109) S dX9_readDeed_108 (by decide) rfl ?_
    exact B109 x1 (0 : Int32) w0 hw
  have B67 : ∀ (x1 : Int32) (x2 : Int32) (w0 : ModV), wp_X9_readDeed_B67 x1 x2 w0 Q → V p l e { frames := 3, cells := 0, slots := 0, locals := 66 } s m args below meth c G (va_A (wMod G a0 v0.1 v0.2.1 v0.2.2.1 v0.2.2.2.1 v0.2.2.2.2.1 v0.2.2.2.2.2.1 v0.2.2.2.2.2.2.1 v0.2.2.2.2.2.2.2.1 v0.2.2.2.2.2.2.2.2.1 v0.2.2.2.2.2.2.2.2.2.1 v0.2.2.2.2.2.2.2.2.2.2.1 v0.2.2.2.2.2.2.2.2.2.2.2.1 v0.2.2.2.2.2.2.2.2.2.2.2.2.1 v0.2.2.2.2.2.2.2.2.2.2.2.2.2.1 v0.2.2.2.2.2.2.2.2.2.2.2.2.2.2.1 v0.2.2.2.2.2.2.2.2.2.2.2.2.2.2.2.1 v0.2.2.2.2.2.2.2.2.2.2.2.2.2.2.2.2) s.heap.size) 5 0 0 (MQ below (EQ G (wMod G a0 v0.1 v0.2.1 v0.2.2.1 v0.2.2.2.1 v0.2.2.2.2.1 v0.2.2.2.2.2.1 v0.2.2.2.2.2.2.1 v0.2.2.2.2.2.2.2.1 v0.2.2.2.2.2.2.2.2.1 v0.2.2.2.2.2.2.2.2.2.1 v0.2.2.2.2.2.2.2.2.2.2.1 v0.2.2.2.2.2.2.2.2.2.2.2.1 v0.2.2.2.2.2.2.2.2.2.2.2.2.1 v0.2.2.2.2.2.2.2.2.2.2.2.2.2.1 v0.2.2.2.2.2.2.2.2.2.2.2.2.2.2.1 v0.2.2.2.2.2.2.2.2.2.2.2.2.2.2.2.1 v0.2.2.2.2.2.2.2.2.2.2.2.2.2.2.2.2) s.heap.size (PB (fun u : ModV => wMod G a0 u.1 u.2.1 u.2.2.1 u.2.2.2.1 u.2.2.2.2.1 u.2.2.2.2.2.1 u.2.2.2.2.2.2.1 u.2.2.2.2.2.2.2.1 u.2.2.2.2.2.2.2.2.1 u.2.2.2.2.2.2.2.2.2.1 u.2.2.2.2.2.2.2.2.2.2.1 u.2.2.2.2.2.2.2.2.2.2.2.1 u.2.2.2.2.2.2.2.2.2.2.2.2.1 u.2.2.2.2.2.2.2.2.2.2.2.2.2.1 u.2.2.2.2.2.2.2.2.2.2.2.2.2.2.1 u.2.2.2.2.2.2.2.2.2.2.2.2.2.2.2.1 u.2.2.2.2.2.2.2.2.2.2.2.2.2.2.2.2) Q)) args s 0 0 (va_A (wMod G a0 v0.1 v0.2.1 v0.2.2.1 v0.2.2.2.1 v0.2.2.2.2.1 v0.2.2.2.2.2.1 v0.2.2.2.2.2.2.1 v0.2.2.2.2.2.2.2.1 v0.2.2.2.2.2.2.2.2.1 v0.2.2.2.2.2.2.2.2.2.1 v0.2.2.2.2.2.2.2.2.2.2.1 v0.2.2.2.2.2.2.2.2.2.2.2.1 v0.2.2.2.2.2.2.2.2.2.2.2.2.1 v0.2.2.2.2.2.2.2.2.2.2.2.2.2.1 v0.2.2.2.2.2.2.2.2.2.2.2.2.2.2.1 v0.2.2.2.2.2.2.2.2.2.2.2.2.2.2.2.1 v0.2.2.2.2.2.2.2.2.2.2.2.2.2.2.2.2) s.heap.size)) (wMod G a0 w0.1 w0.2.1 w0.2.2.1 w0.2.2.2.1 w0.2.2.2.2.1 w0.2.2.2.2.2.1 w0.2.2.2.2.2.2.1 w0.2.2.2.2.2.2.2.1 w0.2.2.2.2.2.2.2.2.1 w0.2.2.2.2.2.2.2.2.2.1 w0.2.2.2.2.2.2.2.2.2.2.1 w0.2.2.2.2.2.2.2.2.2.2.2.1 w0.2.2.2.2.2.2.2.2.2.2.2.2.1 w0.2.2.2.2.2.2.2.2.2.2.2.2.2.1 w0.2.2.2.2.2.2.2.2.2.2.2.2.2.2.1 w0.2.2.2.2.2.2.2.2.2.2.2.2.2.2.2.1 w0.2.2.2.2.2.2.2.2.2.2.2.2.2.2.2.2) 67 [(0, .ref a0.1), (1, .int x1), (2, .int x2)] [] := by
    intro x1 x2 w0 hw
    refine v_aload_n (pc2 := 68) S 0 dX9_readDeed_67 rfl rfl rfl ?_
    refine v_bipush (v := 111) (pc2 := 70) S dX9_readDeed_68 (by decide) rfl ?_
    refine v_bipush (v := 111) (pc2 := 72) S dX9_readDeed_70 (by decide) rfl ?_
    refine v_callV (pc2 := 75) (As := [.int (111 : Int32), .int (111 : Int32)]) (rest := []) S (c_X9_sees l G a0 w0 (111 : Int32) (111 : Int32) _ hw) mf_X9_sees u_1010 u_1012 u_47 0 9 rfl rfl rfl rfl ⟨rfl, rfl⟩ ⟨Nat.le_of_ble_eq_true rfl, Nat.le_of_ble_eq_true rfl⟩ ⟨Nat.le_of_ble_eq_true rfl, Nat.le_of_ble_eq_true rfl⟩ (Nat.le_of_ble_eq_true rfl) dX9_readDeed_72 (frW _) rfl (pb (fun r9 u10 br9 hw => ?_))
    refine v_to (wMod G a0 w0.1 w0.2.1 w0.2.2.1 w0.2.2.2.1 w0.2.2.2.2.1 w0.2.2.2.2.2.1 w0.2.2.2.2.2.2.1 w0.2.2.2.2.2.2.2.1 w0.2.2.2.2.2.2.2.2.1 w0.2.2.2.2.2.2.2.2.2.1 w0.2.2.2.2.2.2.2.2.2.2.1 w0.2.2.2.2.2.2.2.2.2.2.2.1 w0.2.2.2.2.2.2.2.2.2.2.2.2.1 w0.2.2.2.2.2.2.2.2.2.2.2.2.2.1 w0.2.2.2.2.2.2.2.2.2.2.2.2.2.2.1 w0.2.2.2.2.2.2.2.2.2.2.2.2.2.2.2.1 w0.2.2.2.2.2.2.2.2.2.2.2.2.2.2.2.2) 75 [(0, .ref a0.1), (1, .int x1), (2, .int x2)] _ [.int r9] rfl rfl rfl rfl ?_
    refine v_if_ne (pc2 := 78) (tgt := 104) S dX9_readDeed_75 (by decide) rfl (fun c11 => ?_) (fun c11 => ?_)
    · have hw := hw.1 c11
      refine v_lv [(0, .ref a0.1), (1, .int x1)] [0, 1] rfl ?_
      exact B104 x1 w0 hw
    · have hw := hw.2 c11
      refine v_aload_n (pc2 := 79) S 0 dX9_readDeed_78 rfl rfl rfl ?_
      refine v_bipush (v := 99) (pc2 := 81) S dX9_readDeed_79 (by decide) rfl ?_
      refine v_bipush (v := 99) (pc2 := 83) S dX9_readDeed_81 (by decide) rfl ?_
      refine v_callV (pc2 := 86) (As := [.int (99 : Int32), .int (99 : Int32)]) (rest := []) S (c_X9_sees l G a0 w0 (99 : Int32) (99 : Int32) _ hw) mf_X9_sees u_1010 u_1012 u_47 0 9 rfl rfl rfl rfl ⟨rfl, rfl⟩ ⟨Nat.le_of_ble_eq_true rfl, Nat.le_of_ble_eq_true rfl⟩ ⟨Nat.le_of_ble_eq_true rfl, Nat.le_of_ble_eq_true rfl⟩ (Nat.le_of_ble_eq_true rfl) dX9_readDeed_83 (frW _) rfl (pb (fun r23 u24 br23 hw => ?_))
      refine v_to (wMod G a0 w0.1 w0.2.1 w0.2.2.1 w0.2.2.2.1 w0.2.2.2.2.1 w0.2.2.2.2.2.1 w0.2.2.2.2.2.2.1 w0.2.2.2.2.2.2.2.1 w0.2.2.2.2.2.2.2.2.1 w0.2.2.2.2.2.2.2.2.2.1 w0.2.2.2.2.2.2.2.2.2.2.1 w0.2.2.2.2.2.2.2.2.2.2.2.1 w0.2.2.2.2.2.2.2.2.2.2.2.2.1 w0.2.2.2.2.2.2.2.2.2.2.2.2.2.1 w0.2.2.2.2.2.2.2.2.2.2.2.2.2.2.1 w0.2.2.2.2.2.2.2.2.2.2.2.2.2.2.2.1 w0.2.2.2.2.2.2.2.2.2.2.2.2.2.2.2.2) 86 [(0, .ref a0.1), (1, .int x1), (2, .int x2)] _ [.int r23] rfl rfl rfl rfl ?_
      refine v_if_ne (pc2 := 89) (tgt := 104) S dX9_readDeed_86 (by decide) rfl (fun c25 => ?_) (fun c25 => ?_)
      · have hw := hw.1 c25
        refine v_lv [(0, .ref a0.1), (1, .int x1)] [0, 1] rfl ?_
        exact B104 x1 w0 hw
      · have hw := hw.2 c25
        refine v_iload_n (pc2 := 90) S 2 dX9_readDeed_89 rfl rfl rfl ?_
        refine v_if_eq (pc2 := 93) (tgt := 108) S dX9_readDeed_90 (by decide) rfl (fun c26 => ?_) (fun c26 => ?_)
        · have hw := hw.1 c26
          refine v_lv [(0, .ref a0.1), (1, .int x1)] [0, 1] rfl ?_
          exact B108 x1 w0 hw
        · have hw := hw.2 c26
          refine v_aload_n (pc2 := 94) S 0 dX9_readDeed_93 rfl rfl rfl ?_
          refine v_bipush (v := 119) (pc2 := 96) S dX9_readDeed_94 (by decide) rfl ?_
          refine v_bipush (v := 119) (pc2 := 98) S dX9_readDeed_96 (by decide) rfl ?_
          refine v_callV (pc2 := 101) (As := [.int (119 : Int32), .int (119 : Int32)]) (rest := []) S (c_X9_sees l G a0 w0 (119 : Int32) (119 : Int32) _ hw) mf_X9_sees u_1010 u_1012 u_47 0 9 rfl rfl rfl rfl ⟨rfl, rfl⟩ ⟨Nat.le_of_ble_eq_true rfl, Nat.le_of_ble_eq_true rfl⟩ ⟨Nat.le_of_ble_eq_true rfl, Nat.le_of_ble_eq_true rfl⟩ (Nat.le_of_ble_eq_true rfl) dX9_readDeed_98 (frW _) rfl (pb (fun r27 u28 br27 hw => ?_))
          refine v_to (wMod G a0 w0.1 w0.2.1 w0.2.2.1 w0.2.2.2.1 w0.2.2.2.2.1 w0.2.2.2.2.2.1 w0.2.2.2.2.2.2.1 w0.2.2.2.2.2.2.2.1 w0.2.2.2.2.2.2.2.2.1 w0.2.2.2.2.2.2.2.2.2.1 w0.2.2.2.2.2.2.2.2.2.2.1 w0.2.2.2.2.2.2.2.2.2.2.2.1 w0.2.2.2.2.2.2.2.2.2.2.2.2.1 w0.2.2.2.2.2.2.2.2.2.2.2.2.2.1 w0.2.2.2.2.2.2.2.2.2.2.2.2.2.2.1 w0.2.2.2.2.2.2.2.2.2.2.2.2.2.2.2.1 w0.2.2.2.2.2.2.2.2.2.2.2.2.2.2.2.2) 101 [(0, .ref a0.1), (1, .int x1), (2, .int x2)] _ [.int r27] rfl rfl rfl rfl ?_
          refine v_if_eq (pc2 := 104) (tgt := 108) S dX9_readDeed_101 (by decide) rfl (fun c29 => ?_) (fun c29 => ?_)
          · have hw := hw.1 c29
            refine v_lv [(0, .ref a0.1), (1, .int x1)] [0, 1] rfl ?_
            exact B108 x1 w0 hw
          · have hw := hw.2 c29
            refine v_lv [(0, .ref a0.1), (1, .int x1)] [0, 1] rfl ?_
            exact B104 x1 w0 hw
  refine v_iconst (v := 4) (pc2 := 1) S dX9_readDeed_0 (by decide) rfl ?_
  refine v_aload_n (pc2 := 2) S 0 dX9_readDeed_1 rfl rfl rfl ?_
  refine v_get (v := .int v0.2.2.2.2.2.2.2.2.2.2.2.2.2.1) (pc2 := 5) S gf_X9_160 0 rfl rfl dX9_readDeed_2 rfl ?_
  refine v_imul (pc2 := 6) S dX9_readDeed_5 rfl ?_
  refine v_nm (fun z1 ez1 => ?_)
  have hw := hw z1 ez1
  refine v_istore_n (lv2 := [(0, .ref a0.1), (1, .int z1)]) (pc2 := 7) S dX9_readDeed_6 rfl (by decide) [1, 0] rfl rfl ?_
  refine v_aload_n (pc2 := 8) S 0 dX9_readDeed_7 rfl rfl rfl ?_
  refine v_get (v := .ref a0.2.2.2.2.2.2.1) (pc2 := 11) S gf_X9_35 0 rfl rfl dX9_readDeed_8 rfl ?_
  refine v_iload_n (pc2 := 12) S 1 dX9_readDeed_11 rfl rfl rfl ?_
  refine v_aload_n (pc2 := 13) S 0 dX9_readDeed_12 rfl rfl rfl ?_
  refine v_get (v := .int v0.2.2.2.2.2.2.2.2.2.2.2.1) (pc2 := 16) S gf_X9_154 0 rfl rfl dX9_readDeed_13 rfl ?_
  obtain ⟨h2, hw⟩ := hw
  obtain ⟨g3, eg3⟩ : ∃ y : Nat → Int32, y = upd v0.2.2.2.2.2.2.2.2.2.2.2.2.1 z1.toNatClampNeg v0.2.2.2.2.2.2.2.2.2.2.2.1 := ⟨_, rfl⟩
  have hw := hw g3 eg3
  refine v_iast (ws2 := wMod G a0 v0.1 v0.2.1 v0.2.2.1 v0.2.2.2.1 v0.2.2.2.2.1 v0.2.2.2.2.2.1 v0.2.2.2.2.2.2.1 v0.2.2.2.2.2.2.2.1 v0.2.2.2.2.2.2.2.2.1 v0.2.2.2.2.2.2.2.2.2.1 v0.2.2.2.2.2.2.2.2.2.2.1 v0.2.2.2.2.2.2.2.2.2.2.2.1 g3 v0.2.2.2.2.2.2.2.2.2.2.2.2.2.1 v0.2.2.2.2.2.2.2.2.2.2.2.2.2.2.1 v0.2.2.2.2.2.2.2.2.2.2.2.2.2.2.2.1 v0.2.2.2.2.2.2.2.2.2.2.2.2.2.2.2.2) (pc2 := 17) S 6 rfl h2 (by rw [eg3] <;> rfl) dX9_readDeed_16 rfl ?_
  refine v_aload_n (pc2 := 18) S 0 dX9_readDeed_17 rfl rfl rfl ?_
  refine v_get (v := .ref a0.2.2.2.2.2.2.1) (pc2 := 21) S gf_X9_35 0 rfl rfl dX9_readDeed_18 rfl ?_
  refine v_iload_n (pc2 := 22) S 1 dX9_readDeed_21 rfl rfl rfl ?_
  refine v_iconst (v := 2) (pc2 := 23) S dX9_readDeed_22 (by decide) rfl ?_
  refine v_iadd (pc2 := 24) S dX9_readDeed_23 rfl ?_
  refine v_bipush (v := -4) (pc2 := 26) S dX9_readDeed_24 (by decide) rfl ?_
  obtain ⟨h4, hw⟩ := hw
  obtain ⟨g5, eg5⟩ : ∃ y : Nat → Int32, y = upd g3 (z1 + (2 : Int32)).toNatClampNeg (-4 : Int32) := ⟨_, rfl⟩
  have hw := hw g5 eg5
  refine v_iast (ws2 := wMod G a0 v0.1 v0.2.1 v0.2.2.1 v0.2.2.2.1 v0.2.2.2.2.1 v0.2.2.2.2.2.1 v0.2.2.2.2.2.2.1 v0.2.2.2.2.2.2.2.1 v0.2.2.2.2.2.2.2.2.1 v0.2.2.2.2.2.2.2.2.2.1 v0.2.2.2.2.2.2.2.2.2.2.1 v0.2.2.2.2.2.2.2.2.2.2.2.1 g5 v0.2.2.2.2.2.2.2.2.2.2.2.2.2.1 v0.2.2.2.2.2.2.2.2.2.2.2.2.2.2.1 v0.2.2.2.2.2.2.2.2.2.2.2.2.2.2.2.1 v0.2.2.2.2.2.2.2.2.2.2.2.2.2.2.2.2) (pc2 := 27) S 6 rfl h4 (by rw [eg5] <;> rfl) dX9_readDeed_26 rfl ?_
  refine v_aload_n (pc2 := 28) S 0 dX9_readDeed_27 rfl rfl rfl ?_
  refine v_bipush (v := 103) (pc2 := 30) S dX9_readDeed_28 (by decide) rfl ?_
  refine v_callV (pc2 := 33) (As := [.int (103 : Int32)]) (rest := []) S (c_X9_takes l G a0 (v0.1, v0.2.1, v0.2.2.1, v0.2.2.2.1, v0.2.2.2.2.1, v0.2.2.2.2.2.1, v0.2.2.2.2.2.2.1, v0.2.2.2.2.2.2.2.1, v0.2.2.2.2.2.2.2.2.1, v0.2.2.2.2.2.2.2.2.2.1, v0.2.2.2.2.2.2.2.2.2.2.1, v0.2.2.2.2.2.2.2.2.2.2.2.1, g5, v0.2.2.2.2.2.2.2.2.2.2.2.2.2.1, v0.2.2.2.2.2.2.2.2.2.2.2.2.2.2.1, v0.2.2.2.2.2.2.2.2.2.2.2.2.2.2.2.1, v0.2.2.2.2.2.2.2.2.2.2.2.2.2.2.2.2) (103 : Int32) _ hw) mf_X9_takes u_1006 u_1008 u_46 0 9 rfl rfl rfl rfl ⟨rfl, rfl⟩ ⟨Nat.le_of_ble_eq_true rfl, Nat.le_of_ble_eq_true rfl⟩ ⟨Nat.le_of_ble_eq_true rfl, Nat.le_of_ble_eq_true rfl⟩ (Nat.le_of_ble_eq_true rfl) dX9_readDeed_30 (frW _) rfl (pb (fun r6 u7 br6 hw => ?_))
  refine v_to (wMod G a0 u7.1 u7.2.1 u7.2.2.1 u7.2.2.2.1 u7.2.2.2.2.1 u7.2.2.2.2.2.1 u7.2.2.2.2.2.2.1 u7.2.2.2.2.2.2.2.1 u7.2.2.2.2.2.2.2.2.1 u7.2.2.2.2.2.2.2.2.2.1 u7.2.2.2.2.2.2.2.2.2.2.1 u7.2.2.2.2.2.2.2.2.2.2.2.1 u7.2.2.2.2.2.2.2.2.2.2.2.2.1 u7.2.2.2.2.2.2.2.2.2.2.2.2.2.1 u7.2.2.2.2.2.2.2.2.2.2.2.2.2.2.1 u7.2.2.2.2.2.2.2.2.2.2.2.2.2.2.2.1 u7.2.2.2.2.2.2.2.2.2.2.2.2.2.2.2.2) 33 [(0, .ref a0.1), (1, .int z1)] _ [.int r6] rfl rfl rfl rfl ?_
  refine v_istore_n (lv2 := [(0, .ref a0.1), (1, .int z1), (2, .int r6)]) (pc2 := 34) S dX9_readDeed_33 rfl (by decide) [1, 2, 0] rfl rfl ?_
  refine v_iload_n (pc2 := 35) S 2 dX9_readDeed_34 rfl rfl rfl ?_
  refine v_if_eq (pc2 := 38) (tgt := 67) S dX9_readDeed_35 (by decide) rfl (fun c8 => ?_) (fun c8 => ?_)
  · have hw := hw.1 c8
    exact B67 z1 r6 u7 hw
  · have hw := hw.2 c8
    refine v_aload_n (pc2 := 39) S 0 dX9_readDeed_38 rfl rfl rfl ?_
    refine v_bipush (v := 48) (pc2 := 41) S dX9_readDeed_39 (by decide) rfl ?_
    refine v_bipush (v := 50) (pc2 := 43) S dX9_readDeed_41 (by decide) rfl ?_
    refine v_callV (pc2 := 46) (As := [.int (48 : Int32), .int (50 : Int32)]) (rest := []) S (c_X9_takesOne l G a0 u7 (48 : Int32) (50 : Int32) _ hw) mf_X9_takesOne u_1014 u_1016 u_48 0 9 rfl rfl rfl rfl ⟨rfl, rfl⟩ ⟨Nat.le_of_ble_eq_true rfl, Nat.le_of_ble_eq_true rfl⟩ ⟨Nat.le_of_ble_eq_true rfl, Nat.le_of_ble_eq_true rfl⟩ (Nat.le_of_ble_eq_true rfl) dX9_readDeed_43 (frW _) rfl (pi (fun r30 u31 hw => ?_))
    refine v_to (wMod G a0 u31.1 u31.2.1 u31.2.2.1 u31.2.2.2.1 u31.2.2.2.2.1 u31.2.2.2.2.2.1 u31.2.2.2.2.2.2.1 u31.2.2.2.2.2.2.2.1 u31.2.2.2.2.2.2.2.2.1 u31.2.2.2.2.2.2.2.2.2.1 u31.2.2.2.2.2.2.2.2.2.2.1 u31.2.2.2.2.2.2.2.2.2.2.2.1 u31.2.2.2.2.2.2.2.2.2.2.2.2.1 u31.2.2.2.2.2.2.2.2.2.2.2.2.2.1 u31.2.2.2.2.2.2.2.2.2.2.2.2.2.2.1 u31.2.2.2.2.2.2.2.2.2.2.2.2.2.2.2.1 u31.2.2.2.2.2.2.2.2.2.2.2.2.2.2.2.2) 46 [(0, .ref a0.1), (1, .int z1), (2, .int r6)] _ [.int r30] rfl rfl rfl rfl ?_
    refine v_istore_n (lv2 := [(0, .ref a0.1), (1, .int z1), (2, .int r6), (3, .int r30)]) (pc2 := 47) S dX9_readDeed_46 rfl (by decide) [1, 2, 3, 0] rfl rfl ?_
    refine v_iload_n (pc2 := 48) S 3 dX9_readDeed_47 rfl rfl rfl ?_
    refine v_bipush (v := -4) (pc2 := 50) S dX9_readDeed_48 (by decide) rfl ?_
    refine v_icmp_ne (pc2 := 53) (tgt := 55) S dX9_readDeed_50 (by decide) rfl (fun c32 => ?_) (fun c32 => ?_)
    · have hw := hw.1 c32
      refine v_aload_n (pc2 := 56) S 0 dX9_readDeed_55 rfl rfl rfl ?_
      refine v_get (v := .ref a0.2.2.2.2.2.2.1) (pc2 := 59) S gf_X9_35 0 rfl rfl dX9_readDeed_56 rfl ?_
      refine v_iload_n (pc2 := 60) S 1 dX9_readDeed_59 rfl rfl rfl ?_
      refine v_iconst (v := 2) (pc2 := 61) S dX9_readDeed_60 (by decide) rfl ?_
      refine v_iadd (pc2 := 62) S dX9_readDeed_61 rfl ?_
      refine v_iload_n (pc2 := 63) S 3 dX9_readDeed_62 rfl rfl rfl ?_
      refine v_bipush (v := 48) (pc2 := 65) S dX9_readDeed_63 (by decide) rfl ?_
      refine v_isub (pc2 := 66) S dX9_readDeed_65 rfl ?_
      obtain ⟨h33, hw⟩ := hw
      obtain ⟨g34, eg34⟩ : ∃ y : Nat → Int32, y = upd u31.2.2.2.2.2.2.2.2.2.2.2.2.1 (z1 + (2 : Int32)).toNatClampNeg (r30 - (48 : Int32)) := ⟨_, rfl⟩
      have hw := hw g34 eg34
      refine v_iast (ws2 := wMod G a0 u31.1 u31.2.1 u31.2.2.1 u31.2.2.2.1 u31.2.2.2.2.1 u31.2.2.2.2.2.1 u31.2.2.2.2.2.2.1 u31.2.2.2.2.2.2.2.1 u31.2.2.2.2.2.2.2.2.1 u31.2.2.2.2.2.2.2.2.2.1 u31.2.2.2.2.2.2.2.2.2.2.1 u31.2.2.2.2.2.2.2.2.2.2.2.1 g34 u31.2.2.2.2.2.2.2.2.2.2.2.2.2.1 u31.2.2.2.2.2.2.2.2.2.2.2.2.2.2.1 u31.2.2.2.2.2.2.2.2.2.2.2.2.2.2.2.1 u31.2.2.2.2.2.2.2.2.2.2.2.2.2.2.2.2) (pc2 := 67) S 6 rfl h33 (by rw [eg34] <;> rfl) dX9_readDeed_66 rfl ?_
      refine v_lv [(0, .ref a0.1), (1, .int z1), (2, .int r6)] [0, 1, 2] rfl ?_
      exact B67 z1 r6 (u31.1, u31.2.1, u31.2.2.1, u31.2.2.2.1, u31.2.2.2.2.1, u31.2.2.2.2.2.1, u31.2.2.2.2.2.2.1, u31.2.2.2.2.2.2.2.1, u31.2.2.2.2.2.2.2.2.1, u31.2.2.2.2.2.2.2.2.2.1, u31.2.2.2.2.2.2.2.2.2.2.1, u31.2.2.2.2.2.2.2.2.2.2.2.1, g34, u31.2.2.2.2.2.2.2.2.2.2.2.2.2.1, u31.2.2.2.2.2.2.2.2.2.2.2.2.2.2.1, u31.2.2.2.2.2.2.2.2.2.2.2.2.2.2.2.1, u31.2.2.2.2.2.2.2.2.2.2.2.2.2.2.2.2) hw
    · have hw := hw.2 c32
      refine v_iconst (v := 0) (pc2 := 54) S dX9_readDeed_53 (by decide) rfl ?_
      exact v_zret S (by decide) ⟨(0 : Int32), u31, rfl, (by decide), rfl, hw⟩ dX9_readDeed_54
