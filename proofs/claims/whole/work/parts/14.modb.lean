set_option maxHeartbeats 4000000 in
set_option maxRecDepth 100000 in
theorem c_X9_shuts (l : Launch) (G : GG) (a0 : ModA) (v0 : ModV) (i0 : Int32) (i1 : Int32) (Q : ModV → Prop) (hw : wp_X9_shuts v0 i0 i1 Q) : Con l G yX9_shuts cX9_shuts 3 none { frames := 1, cells := 0, slots := 0, locals := 23 } [.ref a0.1, .int i0, .int i1] (wMod G a0 v0.1 v0.2.1 v0.2.2.1 v0.2.2.2.1 v0.2.2.2.2.1 v0.2.2.2.2.2.1 v0.2.2.2.2.2.2.1 v0.2.2.2.2.2.2.2.1 v0.2.2.2.2.2.2.2.2.1 v0.2.2.2.2.2.2.2.2.2.1 v0.2.2.2.2.2.2.2.2.2.2.1 v0.2.2.2.2.2.2.2.2.2.2.2.1 v0.2.2.2.2.2.2.2.2.2.2.2.2.1 v0.2.2.2.2.2.2.2.2.2.2.2.2.2.1 v0.2.2.2.2.2.2.2.2.2.2.2.2.2.2.1 v0.2.2.2.2.2.2.2.2.2.2.2.2.2.2.2.1 v0.2.2.2.2.2.2.2.2.2.2.2.2.2.2.2.2) (PV (fun u : ModV => wMod G a0 u.1 u.2.1 u.2.2.1 u.2.2.2.1 u.2.2.2.2.1 u.2.2.2.2.2.1 u.2.2.2.2.2.2.1 u.2.2.2.2.2.2.2.1 u.2.2.2.2.2.2.2.2.1 u.2.2.2.2.2.2.2.2.2.1 u.2.2.2.2.2.2.2.2.2.2.1 u.2.2.2.2.2.2.2.2.2.2.2.1 u.2.2.2.2.2.2.2.2.2.2.2.2.1 u.2.2.2.2.2.2.2.2.2.2.2.2.2.1 u.2.2.2.2.2.2.2.2.2.2.2.2.2.2.1 u.2.2.2.2.2.2.2.2.2.2.2.2.2.2.2.1 u.2.2.2.2.2.2.2.2.2.2.2.2.2.2.2.2) Q) 0 0 := by
  refine con_of RX9 rfl (by decide) [(0, .ref a0.1), (1, .int i0), (2, .int i1)] rfl (Nat.le_of_ble_eq_true rfl) ?_
  intro p e s m args below meth c S hname
  refine v_aload_n (pc2 := 1) S 0 dX9_shuts_0 rfl rfl rfl ?_
  refine v_iload_n (pc2 := 2) S 1 dX9_shuts_1 rfl rfl rfl ?_
  refine v_iconst (v := 0) (pc2 := 3) S dX9_shuts_2 (by decide) rfl ?_
  refine v_iconst (v := 0) (pc2 := 4) S dX9_shuts_3 (by decide) rfl ?_
  refine v_callV (pc2 := 7) (As := [.int i0, .int (0 : Int32), .int (0 : Int32)]) (rest := []) S (c_X9_lay l G a0 v0 i0 (0 : Int32) (0 : Int32) _ hw) mf_X9_lay u_771 u_773 u_19 0 9 rfl rfl rfl rfl ⟨rfl, rfl⟩ ⟨Nat.le_of_ble_eq_true rfl, Nat.le_of_ble_eq_true rfl⟩ ⟨Nat.le_of_ble_eq_true rfl, Nat.le_of_ble_eq_true rfl⟩ (Nat.le_of_ble_eq_true rfl) dX9_shuts_4 (frW _) rfl (pv (fun u2 hw => ?_))
  refine v_to (wMod G a0 u2.1 u2.2.1 u2.2.2.1 u2.2.2.2.1 u2.2.2.2.2.1 u2.2.2.2.2.2.1 u2.2.2.2.2.2.2.1 u2.2.2.2.2.2.2.2.1 u2.2.2.2.2.2.2.2.2.1 u2.2.2.2.2.2.2.2.2.2.1 u2.2.2.2.2.2.2.2.2.2.2.1 u2.2.2.2.2.2.2.2.2.2.2.2.1 u2.2.2.2.2.2.2.2.2.2.2.2.2.1 u2.2.2.2.2.2.2.2.2.2.2.2.2.2.1 u2.2.2.2.2.2.2.2.2.2.2.2.2.2.2.1 u2.2.2.2.2.2.2.2.2.2.2.2.2.2.2.2.1 u2.2.2.2.2.2.2.2.2.2.2.2.2.2.2.2.2) 7 [(0, .ref a0.1), (1, .int i0), (2, .int i1)] _ [] rfl rfl rfl rfl ?_
  refine v_aload_n (pc2 := 8) S 0 dX9_shuts_7 rfl rfl rfl ?_
  refine v_iload_n (pc2 := 9) S 1 dX9_shuts_8 rfl rfl rfl ?_
  refine v_bipush (v := 6) (pc2 := 11) S dX9_shuts_9 (by decide) rfl ?_
  refine v_aload_n (pc2 := 12) S 0 dX9_shuts_11 rfl rfl rfl ?_
  refine v_iload_n (pc2 := 13) S 1 dX9_shuts_12 rfl rfl rfl ?_
  refine v_bipush (v := 6) (pc2 := 15) S dX9_shuts_13 (by decide) rfl ?_
  refine v_callV (pc2 := 18) (As := [.int i0, .int (6 : Int32)]) (rest := [.int (6 : Int32), .int i0, .ref a0.1]) S (c_X9_of l G a0 u2 i0 (6 : Int32) _ hw) mf_X9_of u_842 u_844 u_21 0 9 rfl rfl rfl rfl ⟨rfl, rfl⟩ ⟨Nat.le_of_ble_eq_true rfl, Nat.le_of_ble_eq_true rfl⟩ ⟨Nat.le_of_ble_eq_true rfl, Nat.le_of_ble_eq_true rfl⟩ (Nat.le_of_ble_eq_true rfl) dX9_shuts_15 (frW _) rfl (pi (fun r3 u4 hw => ?_))
  refine v_to (wMod G a0 u2.1 u2.2.1 u2.2.2.1 u2.2.2.2.1 u2.2.2.2.2.1 u2.2.2.2.2.2.1 u2.2.2.2.2.2.2.1 u2.2.2.2.2.2.2.2.1 u2.2.2.2.2.2.2.2.2.1 u2.2.2.2.2.2.2.2.2.2.1 u2.2.2.2.2.2.2.2.2.2.2.1 u2.2.2.2.2.2.2.2.2.2.2.2.1 u2.2.2.2.2.2.2.2.2.2.2.2.2.1 u2.2.2.2.2.2.2.2.2.2.2.2.2.2.1 u2.2.2.2.2.2.2.2.2.2.2.2.2.2.2.1 u2.2.2.2.2.2.2.2.2.2.2.2.2.2.2.2.1 u2.2.2.2.2.2.2.2.2.2.2.2.2.2.2.2.2) 18 [(0, .ref a0.1), (1, .int i0), (2, .int i1)] _ [.int r3, .int (6 : Int32), .int i0, .ref a0.1] rfl rfl rfl rfl ?_
  refine v_iconst (v := 1) (pc2 := 19) S dX9_shuts_18 (by decide) rfl ?_
  refine v_iadd (pc2 := 20) S dX9_shuts_19 rfl ?_
  refine v_callV (pc2 := 23) (As := [.int i0, .int (6 : Int32), .int (r3 + (1 : Int32))]) (rest := []) S (c_X9_lay l G a0 u2 i0 (6 : Int32) (r3 + (1 : Int32)) _ hw) mf_X9_lay u_771 u_773 u_19 0 9 rfl rfl rfl rfl ⟨rfl, rfl⟩ ⟨Nat.le_of_ble_eq_true rfl, Nat.le_of_ble_eq_true rfl⟩ ⟨Nat.le_of_ble_eq_true rfl, Nat.le_of_ble_eq_true rfl⟩ (Nat.le_of_ble_eq_true rfl) dX9_shuts_20 (frW _) rfl (pv (fun u6 hw => ?_))
  refine v_to (wMod G a0 u6.1 u6.2.1 u6.2.2.1 u6.2.2.2.1 u6.2.2.2.2.1 u6.2.2.2.2.2.1 u6.2.2.2.2.2.2.1 u6.2.2.2.2.2.2.2.1 u6.2.2.2.2.2.2.2.2.1 u6.2.2.2.2.2.2.2.2.2.1 u6.2.2.2.2.2.2.2.2.2.2.1 u6.2.2.2.2.2.2.2.2.2.2.2.1 u6.2.2.2.2.2.2.2.2.2.2.2.2.1 u6.2.2.2.2.2.2.2.2.2.2.2.2.2.1 u6.2.2.2.2.2.2.2.2.2.2.2.2.2.2.1 u6.2.2.2.2.2.2.2.2.2.2.2.2.2.2.2.1 u6.2.2.2.2.2.2.2.2.2.2.2.2.2.2.2.2) 23 [(0, .ref a0.1), (1, .int i0), (2, .int i1)] _ [] rfl rfl rfl rfl ?_
  refine v_aload_n (pc2 := 24) S 0 dX9_shuts_23 rfl rfl rfl ?_
  refine v_get (v := .ref a0.2.1) (pc2 := 27) S gf_X9_7 0 rfl rfl dX9_shuts_24 rfl ?_
  refine v_iload_n (pc2 := 28) S 2 dX9_shuts_27 rfl rfl rfl ?_
  refine v_dup2 (pc2 := 29) S dX9_shuts_28 rfl rfl rfl ?_
  obtain ⟨h7, hw⟩ := hw
  refine v_iald (pc2 := 30) S 1 rfl h7 dX9_shuts_29 rfl ?_
  refine v_iconst (v := 1) (pc2 := 31) S dX9_shuts_30 (by decide) rfl ?_
  refine v_iadd (pc2 := 32) S dX9_shuts_31 rfl ?_
  obtain ⟨h8, hw⟩ := hw
  obtain ⟨g9, eg9⟩ : ∃ y : Nat → Int32, y = upd u6.1 i1.toNatClampNeg ((u6.1 i1.toNatClampNeg) + (1 : Int32)) := ⟨_, rfl⟩
  have hw := hw g9 eg9
  refine v_iast (ws2 := wMod G a0 g9 u6.2.1 u6.2.2.1 u6.2.2.2.1 u6.2.2.2.2.1 u6.2.2.2.2.2.1 u6.2.2.2.2.2.2.1 u6.2.2.2.2.2.2.2.1 u6.2.2.2.2.2.2.2.2.1 u6.2.2.2.2.2.2.2.2.2.1 u6.2.2.2.2.2.2.2.2.2.2.1 u6.2.2.2.2.2.2.2.2.2.2.2.1 u6.2.2.2.2.2.2.2.2.2.2.2.2.1 u6.2.2.2.2.2.2.2.2.2.2.2.2.2.1 u6.2.2.2.2.2.2.2.2.2.2.2.2.2.2.1 u6.2.2.2.2.2.2.2.2.2.2.2.2.2.2.2.1 u6.2.2.2.2.2.2.2.2.2.2.2.2.2.2.2.2) (pc2 := 33) S 1 rfl h8 (by rw [eg9] <;> rfl) dX9_shuts_32 rfl ?_
  exact v_vret S ⟨(g9, u6.2.1, u6.2.2.1, u6.2.2.2.1, u6.2.2.2.2.1, u6.2.2.2.2.2.1, u6.2.2.2.2.2.2.1, u6.2.2.2.2.2.2.2.1, u6.2.2.2.2.2.2.2.2.1, u6.2.2.2.2.2.2.2.2.2.1, u6.2.2.2.2.2.2.2.2.2.2.1, u6.2.2.2.2.2.2.2.2.2.2.2.1, u6.2.2.2.2.2.2.2.2.2.2.2.2.1, u6.2.2.2.2.2.2.2.2.2.2.2.2.2.1, u6.2.2.2.2.2.2.2.2.2.2.2.2.2.2.1, u6.2.2.2.2.2.2.2.2.2.2.2.2.2.2.2.1, u6.2.2.2.2.2.2.2.2.2.2.2.2.2.2.2.2), rfl, rfl, hw⟩ dX9_shuts_33
set_option maxHeartbeats 4000000 in
set_option maxRecDepth 100000 in
theorem c_X9_lowestIn (l : Launch) (G : GG) (a0 : ModA) (v0 : ModV) (i0 : Int32) (i1 : Int32) (Q : Int32 → Prop) (hw : wp_X9_lowestIn v0 i0 i1 Q) : Con l G yX9_lowestIn cX9_lowestIn 5 (some .int) { frames := 2, cells := 0, slots := 0, locals := 44 } [.ref a0.1, .int i0, .int i1] (wMod G a0 v0.1 v0.2.1 v0.2.2.1 v0.2.2.2.1 v0.2.2.2.2.1 v0.2.2.2.2.2.1 v0.2.2.2.2.2.2.1 v0.2.2.2.2.2.2.2.1 v0.2.2.2.2.2.2.2.2.1 v0.2.2.2.2.2.2.2.2.2.1 v0.2.2.2.2.2.2.2.2.2.2.1 v0.2.2.2.2.2.2.2.2.2.2.2.1 v0.2.2.2.2.2.2.2.2.2.2.2.2.1 v0.2.2.2.2.2.2.2.2.2.2.2.2.2.1 v0.2.2.2.2.2.2.2.2.2.2.2.2.2.2.1 v0.2.2.2.2.2.2.2.2.2.2.2.2.2.2.2.1 v0.2.2.2.2.2.2.2.2.2.2.2.2.2.2.2.2) (PI (fun _ : Unit => wMod G a0 v0.1 v0.2.1 v0.2.2.1 v0.2.2.2.1 v0.2.2.2.2.1 v0.2.2.2.2.2.1 v0.2.2.2.2.2.2.1 v0.2.2.2.2.2.2.2.1 v0.2.2.2.2.2.2.2.2.1 v0.2.2.2.2.2.2.2.2.2.1 v0.2.2.2.2.2.2.2.2.2.2.1 v0.2.2.2.2.2.2.2.2.2.2.2.1 v0.2.2.2.2.2.2.2.2.2.2.2.2.1 v0.2.2.2.2.2.2.2.2.2.2.2.2.2.1 v0.2.2.2.2.2.2.2.2.2.2.2.2.2.2.1 v0.2.2.2.2.2.2.2.2.2.2.2.2.2.2.2.1 v0.2.2.2.2.2.2.2.2.2.2.2.2.2.2.2.2) (fun r _ => Q r)) 0 0 := by
  refine con_of RX9 rfl (by decide) [(0, .ref a0.1), (1, .int i0), (2, .int i1)] rfl (Nat.le_of_ble_eq_true rfl) ?_
  intro p e s m args below meth c S hname
  have L7 : ∀ (x1 : Int32) (x2 : Int32) (kk : Nat) (x3 : Int32) (x4 : Int32), wp_X9_lowestIn_L7 v0 x1 x2 Q kk x3 x4 → V p l e { frames := 2, cells := 0, slots := 0, locals := 44 } s m args below meth c G (va_A (wMod G a0 v0.1 v0.2.1 v0.2.2.1 v0.2.2.2.1 v0.2.2.2.2.1 v0.2.2.2.2.2.1 v0.2.2.2.2.2.2.1 v0.2.2.2.2.2.2.2.1 v0.2.2.2.2.2.2.2.2.1 v0.2.2.2.2.2.2.2.2.2.1 v0.2.2.2.2.2.2.2.2.2.2.1 v0.2.2.2.2.2.2.2.2.2.2.2.1 v0.2.2.2.2.2.2.2.2.2.2.2.2.1 v0.2.2.2.2.2.2.2.2.2.2.2.2.2.1 v0.2.2.2.2.2.2.2.2.2.2.2.2.2.2.1 v0.2.2.2.2.2.2.2.2.2.2.2.2.2.2.2.1 v0.2.2.2.2.2.2.2.2.2.2.2.2.2.2.2.2) s.heap.size) 5 0 0 (MQ below (EQ G (wMod G a0 v0.1 v0.2.1 v0.2.2.1 v0.2.2.2.1 v0.2.2.2.2.1 v0.2.2.2.2.2.1 v0.2.2.2.2.2.2.1 v0.2.2.2.2.2.2.2.1 v0.2.2.2.2.2.2.2.2.1 v0.2.2.2.2.2.2.2.2.2.1 v0.2.2.2.2.2.2.2.2.2.2.1 v0.2.2.2.2.2.2.2.2.2.2.2.1 v0.2.2.2.2.2.2.2.2.2.2.2.2.1 v0.2.2.2.2.2.2.2.2.2.2.2.2.2.1 v0.2.2.2.2.2.2.2.2.2.2.2.2.2.2.1 v0.2.2.2.2.2.2.2.2.2.2.2.2.2.2.2.1 v0.2.2.2.2.2.2.2.2.2.2.2.2.2.2.2.2) s.heap.size (PI (fun _ : Unit => wMod G a0 v0.1 v0.2.1 v0.2.2.1 v0.2.2.2.1 v0.2.2.2.2.1 v0.2.2.2.2.2.1 v0.2.2.2.2.2.2.1 v0.2.2.2.2.2.2.2.1 v0.2.2.2.2.2.2.2.2.1 v0.2.2.2.2.2.2.2.2.2.1 v0.2.2.2.2.2.2.2.2.2.2.1 v0.2.2.2.2.2.2.2.2.2.2.2.1 v0.2.2.2.2.2.2.2.2.2.2.2.2.1 v0.2.2.2.2.2.2.2.2.2.2.2.2.2.1 v0.2.2.2.2.2.2.2.2.2.2.2.2.2.2.1 v0.2.2.2.2.2.2.2.2.2.2.2.2.2.2.2.1 v0.2.2.2.2.2.2.2.2.2.2.2.2.2.2.2.2) (fun r _ => Q r))) args s 0 0 (va_A (wMod G a0 v0.1 v0.2.1 v0.2.2.1 v0.2.2.2.1 v0.2.2.2.2.1 v0.2.2.2.2.2.1 v0.2.2.2.2.2.2.1 v0.2.2.2.2.2.2.2.1 v0.2.2.2.2.2.2.2.2.1 v0.2.2.2.2.2.2.2.2.2.1 v0.2.2.2.2.2.2.2.2.2.2.1 v0.2.2.2.2.2.2.2.2.2.2.2.1 v0.2.2.2.2.2.2.2.2.2.2.2.2.1 v0.2.2.2.2.2.2.2.2.2.2.2.2.2.1 v0.2.2.2.2.2.2.2.2.2.2.2.2.2.2.1 v0.2.2.2.2.2.2.2.2.2.2.2.2.2.2.2.1 v0.2.2.2.2.2.2.2.2.2.2.2.2.2.2.2.2) s.heap.size)) (wMod G a0 v0.1 v0.2.1 v0.2.2.1 v0.2.2.2.1 v0.2.2.2.2.1 v0.2.2.2.2.2.1 v0.2.2.2.2.2.2.1 v0.2.2.2.2.2.2.2.1 v0.2.2.2.2.2.2.2.2.1 v0.2.2.2.2.2.2.2.2.2.1 v0.2.2.2.2.2.2.2.2.2.2.1 v0.2.2.2.2.2.2.2.2.2.2.2.1 v0.2.2.2.2.2.2.2.2.2.2.2.2.1 v0.2.2.2.2.2.2.2.2.2.2.2.2.2.1 v0.2.2.2.2.2.2.2.2.2.2.2.2.2.2.1 v0.2.2.2.2.2.2.2.2.2.2.2.2.2.2.2.1 v0.2.2.2.2.2.2.2.2.2.2.2.2.2.2.2.2) 7 [(0, .ref a0.1), (1, .int x1), (2, .int x2), (3, .int x3), (4, .int x4)] [] := by
    intro x1 x2 kk
    induction kk with
    | zero => intro x3 x4 hw; exact hw.elim
    | succ n ih =>
      intro x3 x4 hw
      refine v_iload (pc2 := 9) S 4 dX9_lowestIn_7 rfl rfl ?_
      refine v_if_lt (pc2 := 12) (tgt := 50) S dX9_lowestIn_9 (by decide) rfl (fun c1 => ?_) (fun c1 => ?_)
      · have hw := hw.1 c1
        refine v_iload_n (pc2 := 51) S 3 dX9_lowestIn_50 rfl rfl rfl ?_
        exact v_iret S ⟨x3, (), rfl, rfl, hw⟩ dX9_lowestIn_51
      · have hw := hw.2 c1
        refine v_iload (pc2 := 14) S 4 dX9_lowestIn_12 rfl rfl ?_
        refine v_iload_n (pc2 := 15) S 2 dX9_lowestIn_14 rfl rfl rfl ?_
        refine v_icmp_eq (pc2 := 18) (tgt := 42) S dX9_lowestIn_15 (by decide) rfl (fun c2 => ?_) (fun c2 => ?_)
        · have hw := hw.1 c2
          refine v_iload_n (pc2 := 43) S 3 dX9_lowestIn_42 rfl rfl rfl ?_
          refine v_istore_n (lv2 := [(0, .ref a0.1), (1, .int x1), (2, .int x2), (3, .int x3), (4, .int x4)]) (pc2 := 44) S dX9_lowestIn_43 rfl (by decide) [1, 2, 3, 0, 4] rfl rfl ?_
          obtain ⟨z3, ez3⟩ : ∃ y : Int32, y = x4 + (-1 : Int32) := ⟨_, rfl⟩
          have hw := hw z3 ez3
          refine v_iinc (v := z3) (lv2 := [(0, .ref a0.1), (1, .int x1), (2, .int x2), (3, .int x3), (4, .int z3)]) (pc2 := 47) S 4 dX9_lowestIn_44 rfl (by rw [ez3]; rfl) (by decide) [1, 2, 3, 4, 0] rfl rfl ?_
          refine v_goto (tgt := 7) S dX9_lowestIn_47 (by decide) ?_
          exact ih x3 z3 hw
        · have hw := hw.2 c2
          refine v_aload_n (pc2 := 19) S 0 dX9_lowestIn_18 rfl rfl rfl ?_
          refine v_iload (pc2 := 21) S 4 dX9_lowestIn_19 rfl rfl ?_
          refine v_callV (pc2 := 24) (As := [.int x4]) (rest := []) S (c_X9_isOpen l G a0 v0 x4 _ hw) mf_X9_isOpen u_872 u_874 u_25 0 9 rfl rfl rfl rfl ⟨rfl, rfl⟩ ⟨Nat.le_of_ble_eq_true rfl, Nat.le_of_ble_eq_true rfl⟩ ⟨Nat.le_of_ble_eq_true rfl, Nat.le_of_ble_eq_true rfl⟩ (Nat.le_of_ble_eq_true rfl) dX9_lowestIn_21 (frW _) rfl (pb (fun r4 u5 br4 hw => ?_))
          refine v_to (wMod G a0 v0.1 v0.2.1 v0.2.2.1 v0.2.2.2.1 v0.2.2.2.2.1 v0.2.2.2.2.2.1 v0.2.2.2.2.2.2.1 v0.2.2.2.2.2.2.2.1 v0.2.2.2.2.2.2.2.2.1 v0.2.2.2.2.2.2.2.2.2.1 v0.2.2.2.2.2.2.2.2.2.2.1 v0.2.2.2.2.2.2.2.2.2.2.2.1 v0.2.2.2.2.2.2.2.2.2.2.2.2.1 v0.2.2.2.2.2.2.2.2.2.2.2.2.2.1 v0.2.2.2.2.2.2.2.2.2.2.2.2.2.2.1 v0.2.2.2.2.2.2.2.2.2.2.2.2.2.2.2.1 v0.2.2.2.2.2.2.2.2.2.2.2.2.2.2.2.2) 24 [(0, .ref a0.1), (1, .int x1), (2, .int x2), (3, .int x3), (4, .int x4)] _ [.int r4] rfl rfl rfl rfl ?_
          refine v_if_eq (pc2 := 27) (tgt := 42) S dX9_lowestIn_24 (by decide) rfl (fun c6 => ?_) (fun c6 => ?_)
          · have hw := hw.1 c6
            refine v_iload_n (pc2 := 43) S 3 dX9_lowestIn_42 rfl rfl rfl ?_
            refine v_istore_n (lv2 := [(0, .ref a0.1), (1, .int x1), (2, .int x2), (3, .int x3), (4, .int x4)]) (pc2 := 44) S dX9_lowestIn_43 rfl (by decide) [1, 2, 3, 0, 4] rfl rfl ?_
            obtain ⟨z7, ez7⟩ : ∃ y : Int32, y = x4 + (-1 : Int32) := ⟨_, rfl⟩
            have hw := hw z7 ez7
            refine v_iinc (v := z7) (lv2 := [(0, .ref a0.1), (1, .int x1), (2, .int x2), (3, .int x3), (4, .int z7)]) (pc2 := 47) S 4 dX9_lowestIn_44 rfl (by rw [ez7]; rfl) (by decide) [1, 2, 3, 4, 0] rfl rfl ?_
            refine v_goto (tgt := 7) S dX9_lowestIn_47 (by decide) ?_
            exact ih x3 z7 hw
          · have hw := hw.2 c6
            refine v_aload_n (pc2 := 28) S 0 dX9_lowestIn_27 rfl rfl rfl ?_
            refine v_iload (pc2 := 30) S 4 dX9_lowestIn_28 rfl rfl ?_
            refine v_iload_n (pc2 := 31) S 1 dX9_lowestIn_30 rfl rfl rfl ?_
            refine v_callV (pc2 := 34) (As := [.int x4, .int x1]) (rest := []) S (c_X9_joins l G a0 v0 x4 x1 _ hw) mf_X9_joins u_900 u_902 u_32 0 9 rfl rfl rfl rfl ⟨rfl, rfl⟩ ⟨Nat.le_of_ble_eq_true rfl, Nat.le_of_ble_eq_true rfl⟩ ⟨Nat.le_of_ble_eq_true rfl, Nat.le_of_ble_eq_true rfl⟩ (Nat.le_of_ble_eq_true rfl) dX9_lowestIn_31 (frW _) rfl (pb (fun r8 u9 br8 hw => ?_))
            refine v_to (wMod G a0 v0.1 v0.2.1 v0.2.2.1 v0.2.2.2.1 v0.2.2.2.2.1 v0.2.2.2.2.2.1 v0.2.2.2.2.2.2.1 v0.2.2.2.2.2.2.2.1 v0.2.2.2.2.2.2.2.2.1 v0.2.2.2.2.2.2.2.2.2.1 v0.2.2.2.2.2.2.2.2.2.2.1 v0.2.2.2.2.2.2.2.2.2.2.2.1 v0.2.2.2.2.2.2.2.2.2.2.2.2.1 v0.2.2.2.2.2.2.2.2.2.2.2.2.2.1 v0.2.2.2.2.2.2.2.2.2.2.2.2.2.2.1 v0.2.2.2.2.2.2.2.2.2.2.2.2.2.2.2.1 v0.2.2.2.2.2.2.2.2.2.2.2.2.2.2.2.2) 34 [(0, .ref a0.1), (1, .int x1), (2, .int x2), (3, .int x3), (4, .int x4)] _ [.int r8] rfl rfl rfl rfl ?_
            refine v_if_eq (pc2 := 37) (tgt := 42) S dX9_lowestIn_34 (by decide) rfl (fun c10 => ?_) (fun c10 => ?_)
            · have hw := hw.1 c10
              refine v_iload_n (pc2 := 43) S 3 dX9_lowestIn_42 rfl rfl rfl ?_
              refine v_istore_n (lv2 := [(0, .ref a0.1), (1, .int x1), (2, .int x2), (3, .int x3), (4, .int x4)]) (pc2 := 44) S dX9_lowestIn_43 rfl (by decide) [1, 2, 3, 0, 4] rfl rfl ?_
              obtain ⟨z11, ez11⟩ : ∃ y : Int32, y = x4 + (-1 : Int32) := ⟨_, rfl⟩
              have hw := hw z11 ez11
              refine v_iinc (v := z11) (lv2 := [(0, .ref a0.1), (1, .int x1), (2, .int x2), (3, .int x3), (4, .int z11)]) (pc2 := 47) S 4 dX9_lowestIn_44 rfl (by rw [ez11]; rfl) (by decide) [1, 2, 3, 4, 0] rfl rfl ?_
              refine v_goto (tgt := 7) S dX9_lowestIn_47 (by decide) ?_
              exact ih x3 z11 hw
            · have hw := hw.2 c10
              refine v_iload (pc2 := 39) S 4 dX9_lowestIn_37 rfl rfl ?_
              refine v_goto (tgt := 43) S dX9_lowestIn_39 (by decide) ?_
              refine v_istore_n (lv2 := [(0, .ref a0.1), (1, .int x1), (2, .int x2), (3, .int x4), (4, .int x4)]) (pc2 := 44) S dX9_lowestIn_43 rfl (by decide) [1, 2, 3, 0, 4] rfl rfl ?_
              obtain ⟨z12, ez12⟩ : ∃ y : Int32, y = x4 + (-1 : Int32) := ⟨_, rfl⟩
              have hw := hw z12 ez12
              refine v_iinc (v := z12) (lv2 := [(0, .ref a0.1), (1, .int x1), (2, .int x2), (3, .int x4), (4, .int z12)]) (pc2 := 47) S 4 dX9_lowestIn_44 rfl (by rw [ez12]; rfl) (by decide) [1, 2, 3, 4, 0] rfl rfl ?_
              refine v_goto (tgt := 7) S dX9_lowestIn_47 (by decide) ?_
              exact ih x4 z12 hw
  refine v_bipush (v := -4) (pc2 := 2) S dX9_lowestIn_0 (by decide) rfl ?_
  refine v_istore_n (lv2 := [(0, .ref a0.1), (1, .int i0), (2, .int i1), (3, .int (-4 : Int32))]) (pc2 := 3) S dX9_lowestIn_2 rfl (by decide) [1, 2, 3, 0] rfl rfl ?_
  refine v_bipush (v := 9) (pc2 := 5) S dX9_lowestIn_3 (by decide) rfl ?_
  refine v_istore (lv2 := [(0, .ref a0.1), (1, .int i0), (2, .int i1), (3, .int (-4 : Int32)), (4, .int (9 : Int32))]) (pc2 := 7) S dX9_lowestIn_5 (by decide) [1, 2, 3, 4, 0] rfl rfl ?_
  obtain ⟨kk, hw⟩ := hw
  exact L7 i0 i1 kk (-4 : Int32) (9 : Int32) hw
set_option maxHeartbeats 4000000 in
set_option maxRecDepth 100000 in
theorem c_X9_opens (l : Launch) (G : GG) (a0 : ModA) (v0 : ModV) (i0 : Int32) (Q : Int32 → ModV → Prop) (hw : wp_X9_opens v0 i0 Q) : Con l G yX9_opens cX9_opens 4 (some .int) { frames := 3, cells := 0, slots := 0, locals := 68 } [.ref a0.1, .int i0] (wMod G a0 v0.1 v0.2.1 v0.2.2.1 v0.2.2.2.1 v0.2.2.2.2.1 v0.2.2.2.2.2.1 v0.2.2.2.2.2.2.1 v0.2.2.2.2.2.2.2.1 v0.2.2.2.2.2.2.2.2.1 v0.2.2.2.2.2.2.2.2.2.1 v0.2.2.2.2.2.2.2.2.2.2.1 v0.2.2.2.2.2.2.2.2.2.2.2.1 v0.2.2.2.2.2.2.2.2.2.2.2.2.1 v0.2.2.2.2.2.2.2.2.2.2.2.2.2.1 v0.2.2.2.2.2.2.2.2.2.2.2.2.2.2.1 v0.2.2.2.2.2.2.2.2.2.2.2.2.2.2.2.1 v0.2.2.2.2.2.2.2.2.2.2.2.2.2.2.2.2) (PI (fun u : ModV => wMod G a0 u.1 u.2.1 u.2.2.1 u.2.2.2.1 u.2.2.2.2.1 u.2.2.2.2.2.1 u.2.2.2.2.2.2.1 u.2.2.2.2.2.2.2.1 u.2.2.2.2.2.2.2.2.1 u.2.2.2.2.2.2.2.2.2.1 u.2.2.2.2.2.2.2.2.2.2.1 u.2.2.2.2.2.2.2.2.2.2.2.1 u.2.2.2.2.2.2.2.2.2.2.2.2.1 u.2.2.2.2.2.2.2.2.2.2.2.2.2.1 u.2.2.2.2.2.2.2.2.2.2.2.2.2.2.1 u.2.2.2.2.2.2.2.2.2.2.2.2.2.2.2.1 u.2.2.2.2.2.2.2.2.2.2.2.2.2.2.2.2) Q) 0 0 := by
  refine con_of RX9 rfl (by decide) [(0, .ref a0.1), (1, .int i0)] rfl (Nat.le_of_ble_eq_true rfl) ?_
  intro p e s m args below meth c S hname
  have L81 : ∀ (x1 : Int32) (x3 : Int32) (K75 : Int32 → Int32 → ModV → Prop) (hK75 : ∀ (y0 : Int32) (y1 : Int32) (y2 : ModV), K75 y0 y1 y2 → V p l e { frames := 3, cells := 0, slots := 0, locals := 68 } s m args below meth c G (va_A (wMod G a0 v0.1 v0.2.1 v0.2.2.1 v0.2.2.2.1 v0.2.2.2.2.1 v0.2.2.2.2.2.1 v0.2.2.2.2.2.2.1 v0.2.2.2.2.2.2.2.1 v0.2.2.2.2.2.2.2.2.1 v0.2.2.2.2.2.2.2.2.2.1 v0.2.2.2.2.2.2.2.2.2.2.1 v0.2.2.2.2.2.2.2.2.2.2.2.1 v0.2.2.2.2.2.2.2.2.2.2.2.2.1 v0.2.2.2.2.2.2.2.2.2.2.2.2.2.1 v0.2.2.2.2.2.2.2.2.2.2.2.2.2.2.1 v0.2.2.2.2.2.2.2.2.2.2.2.2.2.2.2.1 v0.2.2.2.2.2.2.2.2.2.2.2.2.2.2.2.2) s.heap.size) 4 0 0 (MQ below (EQ G (wMod G a0 v0.1 v0.2.1 v0.2.2.1 v0.2.2.2.1 v0.2.2.2.2.1 v0.2.2.2.2.2.1 v0.2.2.2.2.2.2.1 v0.2.2.2.2.2.2.2.1 v0.2.2.2.2.2.2.2.2.1 v0.2.2.2.2.2.2.2.2.2.1 v0.2.2.2.2.2.2.2.2.2.2.1 v0.2.2.2.2.2.2.2.2.2.2.2.1 v0.2.2.2.2.2.2.2.2.2.2.2.2.1 v0.2.2.2.2.2.2.2.2.2.2.2.2.2.1 v0.2.2.2.2.2.2.2.2.2.2.2.2.2.2.1 v0.2.2.2.2.2.2.2.2.2.2.2.2.2.2.2.1 v0.2.2.2.2.2.2.2.2.2.2.2.2.2.2.2.2) s.heap.size (PI (fun u : ModV => wMod G a0 u.1 u.2.1 u.2.2.1 u.2.2.2.1 u.2.2.2.2.1 u.2.2.2.2.2.1 u.2.2.2.2.2.2.1 u.2.2.2.2.2.2.2.1 u.2.2.2.2.2.2.2.2.1 u.2.2.2.2.2.2.2.2.2.1 u.2.2.2.2.2.2.2.2.2.2.1 u.2.2.2.2.2.2.2.2.2.2.2.1 u.2.2.2.2.2.2.2.2.2.2.2.2.1 u.2.2.2.2.2.2.2.2.2.2.2.2.2.1 u.2.2.2.2.2.2.2.2.2.2.2.2.2.2.1 u.2.2.2.2.2.2.2.2.2.2.2.2.2.2.2.1 u.2.2.2.2.2.2.2.2.2.2.2.2.2.2.2.2) Q)) args s 0 0 (va_A (wMod G a0 v0.1 v0.2.1 v0.2.2.1 v0.2.2.2.1 v0.2.2.2.2.1 v0.2.2.2.2.2.1 v0.2.2.2.2.2.2.1 v0.2.2.2.2.2.2.2.1 v0.2.2.2.2.2.2.2.2.1 v0.2.2.2.2.2.2.2.2.2.1 v0.2.2.2.2.2.2.2.2.2.2.1 v0.2.2.2.2.2.2.2.2.2.2.2.1 v0.2.2.2.2.2.2.2.2.2.2.2.2.1 v0.2.2.2.2.2.2.2.2.2.2.2.2.2.1 v0.2.2.2.2.2.2.2.2.2.2.2.2.2.2.1 v0.2.2.2.2.2.2.2.2.2.2.2.2.2.2.2.1 v0.2.2.2.2.2.2.2.2.2.2.2.2.2.2.2.2) s.heap.size)) (wMod G a0 y2.1 y2.2.1 y2.2.2.1 y2.2.2.2.1 y2.2.2.2.2.1 y2.2.2.2.2.2.1 y2.2.2.2.2.2.2.1 y2.2.2.2.2.2.2.2.1 y2.2.2.2.2.2.2.2.2.1 y2.2.2.2.2.2.2.2.2.2.1 y2.2.2.2.2.2.2.2.2.2.2.1 y2.2.2.2.2.2.2.2.2.2.2.2.1 y2.2.2.2.2.2.2.2.2.2.2.2.2.1 y2.2.2.2.2.2.2.2.2.2.2.2.2.2.1 y2.2.2.2.2.2.2.2.2.2.2.2.2.2.2.1 y2.2.2.2.2.2.2.2.2.2.2.2.2.2.2.2.1 y2.2.2.2.2.2.2.2.2.2.2.2.2.2.2.2.2) 75 [(0, .ref a0.1), (1, .int x1), (2, .int y0), (3, .int y1)] []) (kk : Nat) (x2 : Int32) (w0 : ModV), wp_X9_opens_L81 x1 x3 Q K75 kk x2 w0 → V p l e { frames := 3, cells := 0, slots := 0, locals := 68 } s m args below meth c G (va_A (wMod G a0 v0.1 v0.2.1 v0.2.2.1 v0.2.2.2.1 v0.2.2.2.2.1 v0.2.2.2.2.2.1 v0.2.2.2.2.2.2.1 v0.2.2.2.2.2.2.2.1 v0.2.2.2.2.2.2.2.2.1 v0.2.2.2.2.2.2.2.2.2.1 v0.2.2.2.2.2.2.2.2.2.2.1 v0.2.2.2.2.2.2.2.2.2.2.2.1 v0.2.2.2.2.2.2.2.2.2.2.2.2.1 v0.2.2.2.2.2.2.2.2.2.2.2.2.2.1 v0.2.2.2.2.2.2.2.2.2.2.2.2.2.2.1 v0.2.2.2.2.2.2.2.2.2.2.2.2.2.2.2.1 v0.2.2.2.2.2.2.2.2.2.2.2.2.2.2.2.2) s.heap.size) 4 0 0 (MQ below (EQ G (wMod G a0 v0.1 v0.2.1 v0.2.2.1 v0.2.2.2.1 v0.2.2.2.2.1 v0.2.2.2.2.2.1 v0.2.2.2.2.2.2.1 v0.2.2.2.2.2.2.2.1 v0.2.2.2.2.2.2.2.2.1 v0.2.2.2.2.2.2.2.2.2.1 v0.2.2.2.2.2.2.2.2.2.2.1 v0.2.2.2.2.2.2.2.2.2.2.2.1 v0.2.2.2.2.2.2.2.2.2.2.2.2.1 v0.2.2.2.2.2.2.2.2.2.2.2.2.2.1 v0.2.2.2.2.2.2.2.2.2.2.2.2.2.2.1 v0.2.2.2.2.2.2.2.2.2.2.2.2.2.2.2.1 v0.2.2.2.2.2.2.2.2.2.2.2.2.2.2.2.2) s.heap.size (PI (fun u : ModV => wMod G a0 u.1 u.2.1 u.2.2.1 u.2.2.2.1 u.2.2.2.2.1 u.2.2.2.2.2.1 u.2.2.2.2.2.2.1 u.2.2.2.2.2.2.2.1 u.2.2.2.2.2.2.2.2.1 u.2.2.2.2.2.2.2.2.2.1 u.2.2.2.2.2.2.2.2.2.2.1 u.2.2.2.2.2.2.2.2.2.2.2.1 u.2.2.2.2.2.2.2.2.2.2.2.2.1 u.2.2.2.2.2.2.2.2.2.2.2.2.2.1 u.2.2.2.2.2.2.2.2.2.2.2.2.2.2.1 u.2.2.2.2.2.2.2.2.2.2.2.2.2.2.2.1 u.2.2.2.2.2.2.2.2.2.2.2.2.2.2.2.2) Q)) args s 0 0 (va_A (wMod G a0 v0.1 v0.2.1 v0.2.2.1 v0.2.2.2.1 v0.2.2.2.2.1 v0.2.2.2.2.2.1 v0.2.2.2.2.2.2.1 v0.2.2.2.2.2.2.2.1 v0.2.2.2.2.2.2.2.2.1 v0.2.2.2.2.2.2.2.2.2.1 v0.2.2.2.2.2.2.2.2.2.2.1 v0.2.2.2.2.2.2.2.2.2.2.2.1 v0.2.2.2.2.2.2.2.2.2.2.2.2.1 v0.2.2.2.2.2.2.2.2.2.2.2.2.2.1 v0.2.2.2.2.2.2.2.2.2.2.2.2.2.2.1 v0.2.2.2.2.2.2.2.2.2.2.2.2.2.2.2.1 v0.2.2.2.2.2.2.2.2.2.2.2.2.2.2.2.2) s.heap.size)) (wMod G a0 w0.1 w0.2.1 w0.2.2.1 w0.2.2.2.1 w0.2.2.2.2.1 w0.2.2.2.2.2.1 w0.2.2.2.2.2.2.1 w0.2.2.2.2.2.2.2.1 w0.2.2.2.2.2.2.2.2.1 w0.2.2.2.2.2.2.2.2.2.1 w0.2.2.2.2.2.2.2.2.2.2.1 w0.2.2.2.2.2.2.2.2.2.2.2.1 w0.2.2.2.2.2.2.2.2.2.2.2.2.1 w0.2.2.2.2.2.2.2.2.2.2.2.2.2.1 w0.2.2.2.2.2.2.2.2.2.2.2.2.2.2.1 w0.2.2.2.2.2.2.2.2.2.2.2.2.2.2.2.1 w0.2.2.2.2.2.2.2.2.2.2.2.2.2.2.2.2) 81 [(0, .ref a0.1), (1, .int x1), (2, .int x2), (3, .int x3)] [] := by
    intro x1 x3 K75 hK75 kk
    induction kk with
    | zero => intro x2 w0 hw; exact hw.elim
    | succ n ih =>
      intro x2 w0 hw
      refine v_aload_n (pc2 := 82) S 0 dX9_opens_81 rfl rfl rfl ?_
      refine v_iload_n (pc2 := 83) S 3 dX9_opens_82 rfl rfl rfl ?_
      refine v_callV (pc2 := 86) (As := [.int x3]) (rest := []) S (c_X9_openIn l G a0 w0 x3 _ hw) mf_X9_openIn u_896 u_898 u_31 0 9 rfl rfl rfl rfl ⟨rfl, rfl⟩ ⟨Nat.le_of_ble_eq_true rfl, Nat.le_of_ble_eq_true rfl⟩ ⟨Nat.le_of_ble_eq_true rfl, Nat.le_of_ble_eq_true rfl⟩ (Nat.le_of_ble_eq_true rfl) dX9_opens_83 (frW _) rfl (pi (fun r12 u13 hw => ?_))
      refine v_to (wMod G a0 w0.1 w0.2.1 w0.2.2.1 w0.2.2.2.1 w0.2.2.2.2.1 w0.2.2.2.2.2.1 w0.2.2.2.2.2.2.1 w0.2.2.2.2.2.2.2.1 w0.2.2.2.2.2.2.2.2.1 w0.2.2.2.2.2.2.2.2.2.1 w0.2.2.2.2.2.2.2.2.2.2.1 w0.2.2.2.2.2.2.2.2.2.2.2.1 w0.2.2.2.2.2.2.2.2.2.2.2.2.1 w0.2.2.2.2.2.2.2.2.2.2.2.2.2.1 w0.2.2.2.2.2.2.2.2.2.2.2.2.2.2.1 w0.2.2.2.2.2.2.2.2.2.2.2.2.2.2.2.1 w0.2.2.2.2.2.2.2.2.2.2.2.2.2.2.2.2) 86 [(0, .ref a0.1), (1, .int x1), (2, .int x2), (3, .int x3)] _ [.int r12] rfl rfl rfl rfl ?_
      refine v_aload_n (pc2 := 87) S 0 dX9_opens_86 rfl rfl rfl ?_
      refine v_get (v := .ref a0.2.1) (pc2 := 90) S gf_X9_7 0 rfl rfl dX9_opens_87 rfl ?_
      refine v_iconst (v := 0) (pc2 := 91) S dX9_opens_90 (by decide) rfl ?_
      obtain ⟨h14, hw⟩ := hw
      refine v_iald (pc2 := 92) S 1 rfl h14 dX9_opens_91 rfl ?_
      refine v_icmp_le (pc2 := 95) (tgt := 112) S dX9_opens_92 (by decide) rfl (fun c15 => ?_) (fun c15 => ?_)
      · have hw := hw.1 c15
        obtain ⟨z16, ez16⟩ : ∃ y : Int32, y = x3 + (1 : Int32) := ⟨_, rfl⟩
        have hw := hw z16 ez16
        refine v_iinc (v := z16) (lv2 := [(0, .ref a0.1), (1, .int x1), (2, .int x2), (3, .int z16)]) (pc2 := 115) S 3 dX9_opens_112 rfl (by rw [ez16]; rfl) (by decide) [1, 2, 3, 0] rfl rfl ?_
        refine v_goto (tgt := 75) S dX9_opens_115 (by decide) ?_
        exact hK75 x2 z16 w0 hw
      · have hw := hw.2 c15
        refine v_aload_n (pc2 := 96) S 0 dX9_opens_95 rfl rfl rfl ?_
        refine v_aload_n (pc2 := 97) S 0 dX9_opens_96 rfl rfl rfl ?_
        refine v_iload_n (pc2 := 98) S 3 dX9_opens_97 rfl rfl rfl ?_
        refine v_iload_n (pc2 := 99) S 1 dX9_opens_98 rfl rfl rfl ?_
        refine v_callV (pc2 := 102) (As := [.int x3, .int x1]) (rest := [.ref a0.1]) S (c_X9_lowestIn l G a0 w0 x3 x1 _ hw) mf_X9_lowestIn u_904 u_906 u_33 0 9 rfl rfl rfl rfl ⟨rfl, rfl⟩ ⟨Nat.le_of_ble_eq_true rfl, Nat.le_of_ble_eq_true rfl⟩ ⟨Nat.le_of_ble_eq_true rfl, Nat.le_of_ble_eq_true rfl⟩ (Nat.le_of_ble_eq_true rfl) dX9_opens_99 (frW _) rfl (pi (fun r17 u18 hw => ?_))
        refine v_to (wMod G a0 w0.1 w0.2.1 w0.2.2.1 w0.2.2.2.1 w0.2.2.2.2.1 w0.2.2.2.2.2.1 w0.2.2.2.2.2.2.1 w0.2.2.2.2.2.2.2.1 w0.2.2.2.2.2.2.2.2.1 w0.2.2.2.2.2.2.2.2.2.1 w0.2.2.2.2.2.2.2.2.2.2.1 w0.2.2.2.2.2.2.2.2.2.2.2.1 w0.2.2.2.2.2.2.2.2.2.2.2.2.1 w0.2.2.2.2.2.2.2.2.2.2.2.2.2.1 w0.2.2.2.2.2.2.2.2.2.2.2.2.2.2.1 w0.2.2.2.2.2.2.2.2.2.2.2.2.2.2.2.1 w0.2.2.2.2.2.2.2.2.2.2.2.2.2.2.2.2) 102 [(0, .ref a0.1), (1, .int x1), (2, .int x2), (3, .int x3)] _ [.int r17, .ref a0.1] rfl rfl rfl rfl ?_
        refine v_iconst (v := 4) (pc2 := 103) S dX9_opens_102 (by decide) rfl ?_
        refine v_callV (pc2 := 106) (As := [.int r17, .int (4 : Int32)]) (rest := []) S (c_X9_shuts l G a0 w0 r17 (4 : Int32) _ hw) mf_X9_shuts u_892 u_894 u_30 0 9 rfl rfl rfl rfl ⟨rfl, rfl⟩ ⟨Nat.le_of_ble_eq_true rfl, Nat.le_of_ble_eq_true rfl⟩ ⟨Nat.le_of_ble_eq_true rfl, Nat.le_of_ble_eq_true rfl⟩ (Nat.le_of_ble_eq_true rfl) dX9_opens_103 (frW _) rfl (pv (fun u20 hw => ?_))
        refine v_to (wMod G a0 u20.1 u20.2.1 u20.2.2.1 u20.2.2.2.1 u20.2.2.2.2.1 u20.2.2.2.2.2.1 u20.2.2.2.2.2.2.1 u20.2.2.2.2.2.2.2.1 u20.2.2.2.2.2.2.2.2.1 u20.2.2.2.2.2.2.2.2.2.1 u20.2.2.2.2.2.2.2.2.2.2.1 u20.2.2.2.2.2.2.2.2.2.2.2.1 u20.2.2.2.2.2.2.2.2.2.2.2.2.1 u20.2.2.2.2.2.2.2.2.2.2.2.2.2.1 u20.2.2.2.2.2.2.2.2.2.2.2.2.2.2.1 u20.2.2.2.2.2.2.2.2.2.2.2.2.2.2.2.1 u20.2.2.2.2.2.2.2.2.2.2.2.2.2.2.2.2) 106 [(0, .ref a0.1), (1, .int x1), (2, .int x2), (3, .int x3)] _ [] rfl rfl rfl rfl ?_
        obtain ⟨z21, ez21⟩ : ∃ y : Int32, y = x2 + (1 : Int32) := ⟨_, rfl⟩
        have hw := hw z21 ez21
        refine v_iinc (v := z21) (lv2 := [(0, .ref a0.1), (1, .int x1), (2, .int z21), (3, .int x3)]) (pc2 := 109) S 2 dX9_opens_106 rfl (by rw [ez21]; rfl) (by decide) [1, 2, 0, 3] rfl rfl ?_
        refine v_goto (tgt := 81) S dX9_opens_109 (by decide) ?_
        exact ih z21 u20 hw
  have L75 : ∀ (x1 : Int32) (kk : Nat) (x2 : Int32) (x3 : Int32) (w0 : ModV), wp_X9_opens_L75 x1 Q kk x2 x3 w0 → V p l e { frames := 3, cells := 0, slots := 0, locals := 68 } s m args below meth c G (va_A (wMod G a0 v0.1 v0.2.1 v0.2.2.1 v0.2.2.2.1 v0.2.2.2.2.1 v0.2.2.2.2.2.1 v0.2.2.2.2.2.2.1 v0.2.2.2.2.2.2.2.1 v0.2.2.2.2.2.2.2.2.1 v0.2.2.2.2.2.2.2.2.2.1 v0.2.2.2.2.2.2.2.2.2.2.1 v0.2.2.2.2.2.2.2.2.2.2.2.1 v0.2.2.2.2.2.2.2.2.2.2.2.2.1 v0.2.2.2.2.2.2.2.2.2.2.2.2.2.1 v0.2.2.2.2.2.2.2.2.2.2.2.2.2.2.1 v0.2.2.2.2.2.2.2.2.2.2.2.2.2.2.2.1 v0.2.2.2.2.2.2.2.2.2.2.2.2.2.2.2.2) s.heap.size) 4 0 0 (MQ below (EQ G (wMod G a0 v0.1 v0.2.1 v0.2.2.1 v0.2.2.2.1 v0.2.2.2.2.1 v0.2.2.2.2.2.1 v0.2.2.2.2.2.2.1 v0.2.2.2.2.2.2.2.1 v0.2.2.2.2.2.2.2.2.1 v0.2.2.2.2.2.2.2.2.2.1 v0.2.2.2.2.2.2.2.2.2.2.1 v0.2.2.2.2.2.2.2.2.2.2.2.1 v0.2.2.2.2.2.2.2.2.2.2.2.2.1 v0.2.2.2.2.2.2.2.2.2.2.2.2.2.1 v0.2.2.2.2.2.2.2.2.2.2.2.2.2.2.1 v0.2.2.2.2.2.2.2.2.2.2.2.2.2.2.2.1 v0.2.2.2.2.2.2.2.2.2.2.2.2.2.2.2.2) s.heap.size (PI (fun u : ModV => wMod G a0 u.1 u.2.1 u.2.2.1 u.2.2.2.1 u.2.2.2.2.1 u.2.2.2.2.2.1 u.2.2.2.2.2.2.1 u.2.2.2.2.2.2.2.1 u.2.2.2.2.2.2.2.2.1 u.2.2.2.2.2.2.2.2.2.1 u.2.2.2.2.2.2.2.2.2.2.1 u.2.2.2.2.2.2.2.2.2.2.2.1 u.2.2.2.2.2.2.2.2.2.2.2.2.1 u.2.2.2.2.2.2.2.2.2.2.2.2.2.1 u.2.2.2.2.2.2.2.2.2.2.2.2.2.2.1 u.2.2.2.2.2.2.2.2.2.2.2.2.2.2.2.1 u.2.2.2.2.2.2.2.2.2.2.2.2.2.2.2.2) Q)) args s 0 0 (va_A (wMod G a0 v0.1 v0.2.1 v0.2.2.1 v0.2.2.2.1 v0.2.2.2.2.1 v0.2.2.2.2.2.1 v0.2.2.2.2.2.2.1 v0.2.2.2.2.2.2.2.1 v0.2.2.2.2.2.2.2.2.1 v0.2.2.2.2.2.2.2.2.2.1 v0.2.2.2.2.2.2.2.2.2.2.1 v0.2.2.2.2.2.2.2.2.2.2.2.1 v0.2.2.2.2.2.2.2.2.2.2.2.2.1 v0.2.2.2.2.2.2.2.2.2.2.2.2.2.1 v0.2.2.2.2.2.2.2.2.2.2.2.2.2.2.1 v0.2.2.2.2.2.2.2.2.2.2.2.2.2.2.2.1 v0.2.2.2.2.2.2.2.2.2.2.2.2.2.2.2.2) s.heap.size)) (wMod G a0 w0.1 w0.2.1 w0.2.2.1 w0.2.2.2.1 w0.2.2.2.2.1 w0.2.2.2.2.2.1 w0.2.2.2.2.2.2.1 w0.2.2.2.2.2.2.2.1 w0.2.2.2.2.2.2.2.2.1 w0.2.2.2.2.2.2.2.2.2.1 w0.2.2.2.2.2.2.2.2.2.2.1 w0.2.2.2.2.2.2.2.2.2.2.2.1 w0.2.2.2.2.2.2.2.2.2.2.2.2.1 w0.2.2.2.2.2.2.2.2.2.2.2.2.2.1 w0.2.2.2.2.2.2.2.2.2.2.2.2.2.2.1 w0.2.2.2.2.2.2.2.2.2.2.2.2.2.2.2.1 w0.2.2.2.2.2.2.2.2.2.2.2.2.2.2.2.2) 75 [(0, .ref a0.1), (1, .int x1), (2, .int x2), (3, .int x3)] [] := by
    intro x1 kk
    induction kk with
    | zero => intro x2 x3 w0 hw; exact hw.elim
    | succ n ih =>
      intro x2 x3 w0 hw
      refine v_iload_n (pc2 := 76) S 3 dX9_opens_75 rfl rfl rfl ?_
      refine v_bipush (v := 6) (pc2 := 78) S dX9_opens_76 (by decide) rfl ?_
      refine v_icmp_ge (pc2 := 81) (tgt := 118) S dX9_opens_78 (by decide) rfl (fun c11 => ?_) (fun c11 => ?_)
      · have hw := hw.1 c11
        refine v_iload_n (pc2 := 119) S 2 dX9_opens_118 rfl rfl rfl ?_
        exact v_iret S ⟨x2, w0, rfl, rfl, hw⟩ dX9_opens_119
      · have hw := hw.2 c11
        obtain ⟨kk, hw⟩ := hw
        exact L81 x1 x3 (wp_X9_opens_L75 x1 Q n) ih kk x2 w0 hw
  have L35 : ∀ (x1 : Int32) (kk : Nat) (x2 : Int32) (x3 : Int32) (w0 : ModV), wp_X9_opens_L35 x1 Q kk x2 x3 w0 → V p l e { frames := 3, cells := 0, slots := 0, locals := 68 } s m args below meth c G (va_A (wMod G a0 v0.1 v0.2.1 v0.2.2.1 v0.2.2.2.1 v0.2.2.2.2.1 v0.2.2.2.2.2.1 v0.2.2.2.2.2.2.1 v0.2.2.2.2.2.2.2.1 v0.2.2.2.2.2.2.2.2.1 v0.2.2.2.2.2.2.2.2.2.1 v0.2.2.2.2.2.2.2.2.2.2.1 v0.2.2.2.2.2.2.2.2.2.2.2.1 v0.2.2.2.2.2.2.2.2.2.2.2.2.1 v0.2.2.2.2.2.2.2.2.2.2.2.2.2.1 v0.2.2.2.2.2.2.2.2.2.2.2.2.2.2.1 v0.2.2.2.2.2.2.2.2.2.2.2.2.2.2.2.1 v0.2.2.2.2.2.2.2.2.2.2.2.2.2.2.2.2) s.heap.size) 4 0 0 (MQ below (EQ G (wMod G a0 v0.1 v0.2.1 v0.2.2.1 v0.2.2.2.1 v0.2.2.2.2.1 v0.2.2.2.2.2.1 v0.2.2.2.2.2.2.1 v0.2.2.2.2.2.2.2.1 v0.2.2.2.2.2.2.2.2.1 v0.2.2.2.2.2.2.2.2.2.1 v0.2.2.2.2.2.2.2.2.2.2.1 v0.2.2.2.2.2.2.2.2.2.2.2.1 v0.2.2.2.2.2.2.2.2.2.2.2.2.1 v0.2.2.2.2.2.2.2.2.2.2.2.2.2.1 v0.2.2.2.2.2.2.2.2.2.2.2.2.2.2.1 v0.2.2.2.2.2.2.2.2.2.2.2.2.2.2.2.1 v0.2.2.2.2.2.2.2.2.2.2.2.2.2.2.2.2) s.heap.size (PI (fun u : ModV => wMod G a0 u.1 u.2.1 u.2.2.1 u.2.2.2.1 u.2.2.2.2.1 u.2.2.2.2.2.1 u.2.2.2.2.2.2.1 u.2.2.2.2.2.2.2.1 u.2.2.2.2.2.2.2.2.1 u.2.2.2.2.2.2.2.2.2.1 u.2.2.2.2.2.2.2.2.2.2.1 u.2.2.2.2.2.2.2.2.2.2.2.1 u.2.2.2.2.2.2.2.2.2.2.2.2.1 u.2.2.2.2.2.2.2.2.2.2.2.2.2.1 u.2.2.2.2.2.2.2.2.2.2.2.2.2.2.1 u.2.2.2.2.2.2.2.2.2.2.2.2.2.2.2.1 u.2.2.2.2.2.2.2.2.2.2.2.2.2.2.2.2) Q)) args s 0 0 (va_A (wMod G a0 v0.1 v0.2.1 v0.2.2.1 v0.2.2.2.1 v0.2.2.2.2.1 v0.2.2.2.2.2.1 v0.2.2.2.2.2.2.1 v0.2.2.2.2.2.2.2.1 v0.2.2.2.2.2.2.2.2.1 v0.2.2.2.2.2.2.2.2.2.1 v0.2.2.2.2.2.2.2.2.2.2.1 v0.2.2.2.2.2.2.2.2.2.2.2.1 v0.2.2.2.2.2.2.2.2.2.2.2.2.1 v0.2.2.2.2.2.2.2.2.2.2.2.2.2.1 v0.2.2.2.2.2.2.2.2.2.2.2.2.2.2.1 v0.2.2.2.2.2.2.2.2.2.2.2.2.2.2.2.1 v0.2.2.2.2.2.2.2.2.2.2.2.2.2.2.2.2) s.heap.size)) (wMod G a0 w0.1 w0.2.1 w0.2.2.1 w0.2.2.2.1 w0.2.2.2.2.1 w0.2.2.2.2.2.1 w0.2.2.2.2.2.2.1 w0.2.2.2.2.2.2.2.1 w0.2.2.2.2.2.2.2.2.1 w0.2.2.2.2.2.2.2.2.2.1 w0.2.2.2.2.2.2.2.2.2.2.1 w0.2.2.2.2.2.2.2.2.2.2.2.1 w0.2.2.2.2.2.2.2.2.2.2.2.2.1 w0.2.2.2.2.2.2.2.2.2.2.2.2.2.1 w0.2.2.2.2.2.2.2.2.2.2.2.2.2.2.1 w0.2.2.2.2.2.2.2.2.2.2.2.2.2.2.2.1 w0.2.2.2.2.2.2.2.2.2.2.2.2.2.2.2.2) 35 [(0, .ref a0.1), (1, .int x1), (2, .int x2), (3, .int x3)] [] := by
    intro x1 kk
    induction kk with
    | zero => intro x2 x3 w0 hw; exact hw.elim
    | succ n ih =>
      intro x2 x3 w0 hw
      refine v_iload_n (pc2 := 36) S 3 dX9_opens_35 rfl rfl rfl ?_
      refine v_bipush (v := 10) (pc2 := 38) S dX9_opens_36 (by decide) rfl ?_
      refine v_icmp_ge (pc2 := 41) (tgt := 73) S dX9_opens_38 (by decide) rfl (fun c10 => ?_) (fun c10 => ?_)
      · have hw := hw.1 c10
        refine v_iconst (v := 0) (pc2 := 74) S dX9_opens_73 (by decide) rfl ?_
        refine v_istore_n (lv2 := [(0, .ref a0.1), (1, .int x1), (2, .int x2), (3, .int (0 : Int32))]) (pc2 := 75) S dX9_opens_74 rfl (by decide) [1, 2, 3, 0] rfl rfl ?_
        obtain ⟨kk, hw⟩ := hw
        exact L75 x1 kk x2 (0 : Int32) w0 hw
      · have hw := hw.2 c10
        refine v_aload_n (pc2 := 42) S 0 dX9_opens_41 rfl rfl rfl ?_
        refine v_iload_n (pc2 := 43) S 1 dX9_opens_42 rfl rfl rfl ?_
        refine v_iload_n (pc2 := 44) S 3 dX9_opens_43 rfl rfl rfl ?_
        refine v_callV (pc2 := 47) (As := [.int x1, .int x3]) (rest := []) S (c_X9_goesTo l G a0 w0 x1 x3 _ hw) mf_X9_goesTo u_880 u_882 u_27 0 9 rfl rfl rfl rfl ⟨rfl, rfl⟩ ⟨Nat.le_of_ble_eq_true rfl, Nat.le_of_ble_eq_true rfl⟩ ⟨Nat.le_of_ble_eq_true rfl, Nat.le_of_ble_eq_true rfl⟩ (Nat.le_of_ble_eq_true rfl) dX9_opens_44 (frW _) rfl (pb (fun r22 u23 br22 hw => ?_))
        refine v_to (wMod G a0 w0.1 w0.2.1 w0.2.2.1 w0.2.2.2.1 w0.2.2.2.2.1 w0.2.2.2.2.2.1 w0.2.2.2.2.2.2.1 w0.2.2.2.2.2.2.2.1 w0.2.2.2.2.2.2.2.2.1 w0.2.2.2.2.2.2.2.2.2.1 w0.2.2.2.2.2.2.2.2.2.2.1 w0.2.2.2.2.2.2.2.2.2.2.2.1 w0.2.2.2.2.2.2.2.2.2.2.2.2.1 w0.2.2.2.2.2.2.2.2.2.2.2.2.2.1 w0.2.2.2.2.2.2.2.2.2.2.2.2.2.2.1 w0.2.2.2.2.2.2.2.2.2.2.2.2.2.2.2.1 w0.2.2.2.2.2.2.2.2.2.2.2.2.2.2.2.2) 47 [(0, .ref a0.1), (1, .int x1), (2, .int x2), (3, .int x3)] _ [.int r22] rfl rfl rfl rfl ?_
        refine v_if_eq (pc2 := 50) (tgt := 67) S dX9_opens_47 (by decide) rfl (fun c24 => ?_) (fun c24 => ?_)
        · have hw := hw.1 c24
          obtain ⟨z25, ez25⟩ : ∃ y : Int32, y = x3 + (1 : Int32) := ⟨_, rfl⟩
          have hw := hw z25 ez25
          refine v_iinc (v := z25) (lv2 := [(0, .ref a0.1), (1, .int x1), (2, .int x2), (3, .int z25)]) (pc2 := 70) S 3 dX9_opens_67 rfl (by rw [ez25]; rfl) (by decide) [1, 2, 3, 0] rfl rfl ?_
          refine v_goto (tgt := 35) S dX9_opens_70 (by decide) ?_
          exact ih x2 z25 w0 hw
        · have hw := hw.2 c24
          refine v_aload_n (pc2 := 51) S 0 dX9_opens_50 rfl rfl rfl ?_
          refine v_iload_n (pc2 := 52) S 3 dX9_opens_51 rfl rfl rfl ?_
          refine v_callV (pc2 := 55) (As := [.int x3]) (rest := []) S (c_X9_isOpen l G a0 w0 x3 _ hw) mf_X9_isOpen u_872 u_874 u_25 0 9 rfl rfl rfl rfl ⟨rfl, rfl⟩ ⟨Nat.le_of_ble_eq_true rfl, Nat.le_of_ble_eq_true rfl⟩ ⟨Nat.le_of_ble_eq_true rfl, Nat.le_of_ble_eq_true rfl⟩ (Nat.le_of_ble_eq_true rfl) dX9_opens_52 (frW _) rfl (pb (fun r26 u27 br26 hw => ?_))
          refine v_to (wMod G a0 w0.1 w0.2.1 w0.2.2.1 w0.2.2.2.1 w0.2.2.2.2.1 w0.2.2.2.2.2.1 w0.2.2.2.2.2.2.1 w0.2.2.2.2.2.2.2.1 w0.2.2.2.2.2.2.2.2.1 w0.2.2.2.2.2.2.2.2.2.1 w0.2.2.2.2.2.2.2.2.2.2.1 w0.2.2.2.2.2.2.2.2.2.2.2.1 w0.2.2.2.2.2.2.2.2.2.2.2.2.1 w0.2.2.2.2.2.2.2.2.2.2.2.2.2.1 w0.2.2.2.2.2.2.2.2.2.2.2.2.2.2.1 w0.2.2.2.2.2.2.2.2.2.2.2.2.2.2.2.1 w0.2.2.2.2.2.2.2.2.2.2.2.2.2.2.2.2) 55 [(0, .ref a0.1), (1, .int x1), (2, .int x2), (3, .int x3)] _ [.int r26] rfl rfl rfl rfl ?_
          refine v_if_eq (pc2 := 58) (tgt := 67) S dX9_opens_55 (by decide) rfl (fun c28 => ?_) (fun c28 => ?_)
          · have hw := hw.1 c28
            obtain ⟨z29, ez29⟩ : ∃ y : Int32, y = x3 + (1 : Int32) := ⟨_, rfl⟩
            have hw := hw z29 ez29
            refine v_iinc (v := z29) (lv2 := [(0, .ref a0.1), (1, .int x1), (2, .int x2), (3, .int z29)]) (pc2 := 70) S 3 dX9_opens_67 rfl (by rw [ez29]; rfl) (by decide) [1, 2, 3, 0] rfl rfl ?_
            refine v_goto (tgt := 35) S dX9_opens_70 (by decide) ?_
            exact ih x2 z29 w0 hw
          · have hw := hw.2 c28
            refine v_aload_n (pc2 := 59) S 0 dX9_opens_58 rfl rfl rfl ?_
            refine v_iload_n (pc2 := 60) S 3 dX9_opens_59 rfl rfl rfl ?_
            refine v_iconst (v := 3) (pc2 := 61) S dX9_opens_60 (by decide) rfl ?_
            refine v_callV (pc2 := 64) (As := [.int x3, .int (3 : Int32)]) (rest := []) S (c_X9_shuts l G a0 w0 x3 (3 : Int32) _ hw) mf_X9_shuts u_892 u_894 u_30 0 9 rfl rfl rfl rfl ⟨rfl, rfl⟩ ⟨Nat.le_of_ble_eq_true rfl, Nat.le_of_ble_eq_true rfl⟩ ⟨Nat.le_of_ble_eq_true rfl, Nat.le_of_ble_eq_true rfl⟩ (Nat.le_of_ble_eq_true rfl) dX9_opens_61 (frW _) rfl (pv (fun u31 hw => ?_))
            refine v_to (wMod G a0 u31.1 u31.2.1 u31.2.2.1 u31.2.2.2.1 u31.2.2.2.2.1 u31.2.2.2.2.2.1 u31.2.2.2.2.2.2.1 u31.2.2.2.2.2.2.2.1 u31.2.2.2.2.2.2.2.2.1 u31.2.2.2.2.2.2.2.2.2.1 u31.2.2.2.2.2.2.2.2.2.2.1 u31.2.2.2.2.2.2.2.2.2.2.2.1 u31.2.2.2.2.2.2.2.2.2.2.2.2.1 u31.2.2.2.2.2.2.2.2.2.2.2.2.2.1 u31.2.2.2.2.2.2.2.2.2.2.2.2.2.2.1 u31.2.2.2.2.2.2.2.2.2.2.2.2.2.2.2.1 u31.2.2.2.2.2.2.2.2.2.2.2.2.2.2.2.2) 64 [(0, .ref a0.1), (1, .int x1), (2, .int x2), (3, .int x3)] _ [] rfl rfl rfl rfl ?_
            obtain ⟨z32, ez32⟩ : ∃ y : Int32, y = x2 + (1 : Int32) := ⟨_, rfl⟩
            have hw := hw z32 ez32
            refine v_iinc (v := z32) (lv2 := [(0, .ref a0.1), (1, .int x1), (2, .int z32), (3, .int x3)]) (pc2 := 67) S 2 dX9_opens_64 rfl (by rw [ez32]; rfl) (by decide) [1, 2, 0, 3] rfl rfl ?_
            obtain ⟨z33, ez33⟩ : ∃ y : Int32, y = x3 + (1 : Int32) := ⟨_, rfl⟩
            have hw := hw z33 ez33
            refine v_iinc (v := z33) (lv2 := [(0, .ref a0.1), (1, .int x1), (2, .int z32), (3, .int z33)]) (pc2 := 70) S 3 dX9_opens_67 rfl (by rw [ez33]; rfl) (by decide) [1, 2, 3, 0] rfl rfl ?_
            refine v_goto (tgt := 35) S dX9_opens_70 (by decide) ?_
            exact ih z32 z33 u31 hw
  refine v_iconst (v := 0) (pc2 := 1) S dX9_opens_0 (by decide) rfl ?_
  refine v_istore_n (lv2 := [(0, .ref a0.1), (1, .int i0), (2, .int (0 : Int32))]) (pc2 := 2) S dX9_opens_1 rfl (by decide) [1, 2, 0] rfl rfl ?_
  refine v_aload_n (pc2 := 3) S 0 dX9_opens_2 rfl rfl rfl ?_
  refine v_iload_n (pc2 := 4) S 1 dX9_opens_3 rfl rfl rfl ?_
  refine v_iconst (v := 0) (pc2 := 5) S dX9_opens_4 (by decide) rfl ?_
  refine v_iconst (v := 1) (pc2 := 6) S dX9_opens_5 (by decide) rfl ?_
  refine v_callV (pc2 := 9) (As := [.int i0, .int (0 : Int32), .int (1 : Int32)]) (rest := []) S (c_X9_lay l G a0 v0 i0 (0 : Int32) (1 : Int32) _ hw) mf_X9_lay u_771 u_773 u_19 0 9 rfl rfl rfl rfl ⟨rfl, rfl⟩ ⟨Nat.le_of_ble_eq_true rfl, Nat.le_of_ble_eq_true rfl⟩ ⟨Nat.le_of_ble_eq_true rfl, Nat.le_of_ble_eq_true rfl⟩ (Nat.le_of_ble_eq_true rfl) dX9_opens_6 (frW _) rfl (pv (fun u2 hw => ?_))
  refine v_to (wMod G a0 u2.1 u2.2.1 u2.2.2.1 u2.2.2.2.1 u2.2.2.2.2.1 u2.2.2.2.2.2.1 u2.2.2.2.2.2.2.1 u2.2.2.2.2.2.2.2.1 u2.2.2.2.2.2.2.2.2.1 u2.2.2.2.2.2.2.2.2.2.1 u2.2.2.2.2.2.2.2.2.2.2.1 u2.2.2.2.2.2.2.2.2.2.2.2.1 u2.2.2.2.2.2.2.2.2.2.2.2.2.1 u2.2.2.2.2.2.2.2.2.2.2.2.2.2.1 u2.2.2.2.2.2.2.2.2.2.2.2.2.2.2.1 u2.2.2.2.2.2.2.2.2.2.2.2.2.2.2.2.1 u2.2.2.2.2.2.2.2.2.2.2.2.2.2.2.2.2) 9 [(0, .ref a0.1), (1, .int i0), (2, .int (0 : Int32))] _ [] rfl rfl rfl rfl ?_
  refine v_aload_n (pc2 := 10) S 0 dX9_opens_9 rfl rfl rfl ?_
  refine v_iload_n (pc2 := 11) S 1 dX9_opens_10 rfl rfl rfl ?_
  refine v_iconst (v := 5) (pc2 := 12) S dX9_opens_11 (by decide) rfl ?_
  refine v_aload_n (pc2 := 13) S 0 dX9_opens_12 rfl rfl rfl ?_
  refine v_iload_n (pc2 := 14) S 1 dX9_opens_13 rfl rfl rfl ?_
  refine v_iconst (v := 5) (pc2 := 15) S dX9_opens_14 (by decide) rfl ?_
  refine v_callV (pc2 := 18) (As := [.int i0, .int (5 : Int32)]) (rest := [.int (5 : Int32), .int i0, .ref a0.1]) S (c_X9_of l G a0 u2 i0 (5 : Int32) _ hw) mf_X9_of u_842 u_844 u_21 0 9 rfl rfl rfl rfl ⟨rfl, rfl⟩ ⟨Nat.le_of_ble_eq_true rfl, Nat.le_of_ble_eq_true rfl⟩ ⟨Nat.le_of_ble_eq_true rfl, Nat.le_of_ble_eq_true rfl⟩ (Nat.le_of_ble_eq_true rfl) dX9_opens_15 (frW _) rfl (pi (fun r3 u4 hw => ?_))
  refine v_to (wMod G a0 u2.1 u2.2.1 u2.2.2.1 u2.2.2.2.1 u2.2.2.2.2.1 u2.2.2.2.2.2.1 u2.2.2.2.2.2.2.1 u2.2.2.2.2.2.2.2.1 u2.2.2.2.2.2.2.2.2.1 u2.2.2.2.2.2.2.2.2.2.1 u2.2.2.2.2.2.2.2.2.2.2.1 u2.2.2.2.2.2.2.2.2.2.2.2.1 u2.2.2.2.2.2.2.2.2.2.2.2.2.1 u2.2.2.2.2.2.2.2.2.2.2.2.2.2.1 u2.2.2.2.2.2.2.2.2.2.2.2.2.2.2.1 u2.2.2.2.2.2.2.2.2.2.2.2.2.2.2.2.1 u2.2.2.2.2.2.2.2.2.2.2.2.2.2.2.2.2) 18 [(0, .ref a0.1), (1, .int i0), (2, .int (0 : Int32))] _ [.int r3, .int (5 : Int32), .int i0, .ref a0.1] rfl rfl rfl rfl ?_
  refine v_iconst (v := 1) (pc2 := 19) S dX9_opens_18 (by decide) rfl ?_
  refine v_iadd (pc2 := 20) S dX9_opens_19 rfl ?_
  refine v_callV (pc2 := 23) (As := [.int i0, .int (5 : Int32), .int (r3 + (1 : Int32))]) (rest := []) S (c_X9_lay l G a0 u2 i0 (5 : Int32) (r3 + (1 : Int32)) _ hw) mf_X9_lay u_771 u_773 u_19 0 9 rfl rfl rfl rfl ⟨rfl, rfl⟩ ⟨Nat.le_of_ble_eq_true rfl, Nat.le_of_ble_eq_true rfl⟩ ⟨Nat.le_of_ble_eq_true rfl, Nat.le_of_ble_eq_true rfl⟩ (Nat.le_of_ble_eq_true rfl) dX9_opens_20 (frW _) rfl (pv (fun u6 hw => ?_))
  refine v_to (wMod G a0 u6.1 u6.2.1 u6.2.2.1 u6.2.2.2.1 u6.2.2.2.2.1 u6.2.2.2.2.2.1 u6.2.2.2.2.2.2.1 u6.2.2.2.2.2.2.2.1 u6.2.2.2.2.2.2.2.2.1 u6.2.2.2.2.2.2.2.2.2.1 u6.2.2.2.2.2.2.2.2.2.2.1 u6.2.2.2.2.2.2.2.2.2.2.2.1 u6.2.2.2.2.2.2.2.2.2.2.2.2.1 u6.2.2.2.2.2.2.2.2.2.2.2.2.2.1 u6.2.2.2.2.2.2.2.2.2.2.2.2.2.2.1 u6.2.2.2.2.2.2.2.2.2.2.2.2.2.2.2.1 u6.2.2.2.2.2.2.2.2.2.2.2.2.2.2.2.2) 23 [(0, .ref a0.1), (1, .int i0), (2, .int (0 : Int32))] _ [] rfl rfl rfl rfl ?_
  refine v_aload_n (pc2 := 24) S 0 dX9_opens_23 rfl rfl rfl ?_
  refine v_get (v := .ref a0.2.1) (pc2 := 27) S gf_X9_7 0 rfl rfl dX9_opens_24 rfl ?_
  refine v_iconst (v := 1) (pc2 := 28) S dX9_opens_27 (by decide) rfl ?_
  refine v_dup2 (pc2 := 29) S dX9_opens_28 rfl rfl rfl ?_
  obtain ⟨h7, hw⟩ := hw
  refine v_iald (pc2 := 30) S 1 rfl h7 dX9_opens_29 rfl ?_
  refine v_iconst (v := 1) (pc2 := 31) S dX9_opens_30 (by decide) rfl ?_
  refine v_iadd (pc2 := 32) S dX9_opens_31 rfl ?_
  obtain ⟨h8, hw⟩ := hw
  obtain ⟨g9, eg9⟩ : ∃ y : Nat → Int32, y = upd u6.1 (1 : Int32).toNatClampNeg ((u6.1 (1 : Int32).toNatClampNeg) + (1 : Int32)) := ⟨_, rfl⟩
  have hw := hw g9 eg9
  refine v_iast (ws2 := wMod G a0 g9 u6.2.1 u6.2.2.1 u6.2.2.2.1 u6.2.2.2.2.1 u6.2.2.2.2.2.1 u6.2.2.2.2.2.2.1 u6.2.2.2.2.2.2.2.1 u6.2.2.2.2.2.2.2.2.1 u6.2.2.2.2.2.2.2.2.2.1 u6.2.2.2.2.2.2.2.2.2.2.1 u6.2.2.2.2.2.2.2.2.2.2.2.1 u6.2.2.2.2.2.2.2.2.2.2.2.2.1 u6.2.2.2.2.2.2.2.2.2.2.2.2.2.1 u6.2.2.2.2.2.2.2.2.2.2.2.2.2.2.1 u6.2.2.2.2.2.2.2.2.2.2.2.2.2.2.2.1 u6.2.2.2.2.2.2.2.2.2.2.2.2.2.2.2.2) (pc2 := 33) S 1 rfl h8 (by rw [eg9] <;> rfl) dX9_opens_32 rfl ?_
  refine v_iconst (v := 0) (pc2 := 34) S dX9_opens_33 (by decide) rfl ?_
  refine v_istore_n (lv2 := [(0, .ref a0.1), (1, .int i0), (2, .int (0 : Int32)), (3, .int (0 : Int32))]) (pc2 := 35) S dX9_opens_34 rfl (by decide) [1, 2, 3, 0] rfl rfl ?_
  obtain ⟨kk, hw⟩ := hw
  exact L35 i0 kk (0 : Int32) (0 : Int32) (g9, u6.2.1, u6.2.2.1, u6.2.2.2.1, u6.2.2.2.2.1, u6.2.2.2.2.2.1, u6.2.2.2.2.2.2.1, u6.2.2.2.2.2.2.2.1, u6.2.2.2.2.2.2.2.2.1, u6.2.2.2.2.2.2.2.2.2.1, u6.2.2.2.2.2.2.2.2.2.2.1, u6.2.2.2.2.2.2.2.2.2.2.2.1, u6.2.2.2.2.2.2.2.2.2.2.2.2.1, u6.2.2.2.2.2.2.2.2.2.2.2.2.2.1, u6.2.2.2.2.2.2.2.2.2.2.2.2.2.2.1, u6.2.2.2.2.2.2.2.2.2.2.2.2.2.2.2.1, u6.2.2.2.2.2.2.2.2.2.2.2.2.2.2.2.2) hw
set_option maxHeartbeats 4000000 in
set_option maxRecDepth 100000 in
theorem c_X9_refuse (l : Launch) (G : GG) (a0 : ModA) (v0 : ModV) (i0 : Int32) (Q : Int32 → ModV → Prop) (hw : wp_X9_refuse v0 i0 Q) : Con l G yX9_refuse cX9_refuse 2 (some .int) { frames := 0, cells := 0, slots := 0, locals := 0 } [.ref a0.1, .int i0] (wMod G a0 v0.1 v0.2.1 v0.2.2.1 v0.2.2.2.1 v0.2.2.2.2.1 v0.2.2.2.2.2.1 v0.2.2.2.2.2.2.1 v0.2.2.2.2.2.2.2.1 v0.2.2.2.2.2.2.2.2.1 v0.2.2.2.2.2.2.2.2.2.1 v0.2.2.2.2.2.2.2.2.2.2.1 v0.2.2.2.2.2.2.2.2.2.2.2.1 v0.2.2.2.2.2.2.2.2.2.2.2.2.1 v0.2.2.2.2.2.2.2.2.2.2.2.2.2.1 v0.2.2.2.2.2.2.2.2.2.2.2.2.2.2.1 v0.2.2.2.2.2.2.2.2.2.2.2.2.2.2.2.1 v0.2.2.2.2.2.2.2.2.2.2.2.2.2.2.2.2) (PI (fun u : ModV => wMod G a0 u.1 u.2.1 u.2.2.1 u.2.2.2.1 u.2.2.2.2.1 u.2.2.2.2.2.1 u.2.2.2.2.2.2.1 u.2.2.2.2.2.2.2.1 u.2.2.2.2.2.2.2.2.1 u.2.2.2.2.2.2.2.2.2.1 u.2.2.2.2.2.2.2.2.2.2.1 u.2.2.2.2.2.2.2.2.2.2.2.1 u.2.2.2.2.2.2.2.2.2.2.2.2.1 u.2.2.2.2.2.2.2.2.2.2.2.2.2.1 u.2.2.2.2.2.2.2.2.2.2.2.2.2.2.1 u.2.2.2.2.2.2.2.2.2.2.2.2.2.2.2.1 u.2.2.2.2.2.2.2.2.2.2.2.2.2.2.2.2) Q) 0 0 := by
  refine con_of RX9 rfl (by decide) [(0, .ref a0.1), (1, .int i0)] rfl (Nat.le_of_ble_eq_true rfl) ?_
  intro p e s m args below meth c S hname
  refine v_aload_n (pc2 := 1) S 0 dX9_refuse_0 rfl rfl rfl ?_
  refine v_get (v := .ref a0.2.1) (pc2 := 4) S gf_X9_7 0 rfl rfl dX9_refuse_1 rfl ?_
  refine v_iconst (v := 5) (pc2 := 5) S dX9_refuse_4 (by decide) rfl ?_
  refine v_dup2 (pc2 := 6) S dX9_refuse_5 rfl rfl rfl ?_
  obtain ⟨h1, hw⟩ := hw
  refine v_iald (pc2 := 7) S 1 rfl h1 dX9_refuse_6 rfl ?_
  refine v_iconst (v := 1) (pc2 := 8) S dX9_refuse_7 (by decide) rfl ?_
  refine v_iadd (pc2 := 9) S dX9_refuse_8 rfl ?_
  obtain ⟨h2, hw⟩ := hw
  obtain ⟨g3, eg3⟩ : ∃ y : Nat → Int32, y = upd v0.1 (5 : Int32).toNatClampNeg ((v0.1 (5 : Int32).toNatClampNeg) + (1 : Int32)) := ⟨_, rfl⟩
  have hw := hw g3 eg3
  refine v_iast (ws2 := wMod G a0 g3 v0.2.1 v0.2.2.1 v0.2.2.2.1 v0.2.2.2.2.1 v0.2.2.2.2.2.1 v0.2.2.2.2.2.2.1 v0.2.2.2.2.2.2.2.1 v0.2.2.2.2.2.2.2.2.1 v0.2.2.2.2.2.2.2.2.2.1 v0.2.2.2.2.2.2.2.2.2.2.1 v0.2.2.2.2.2.2.2.2.2.2.2.1 v0.2.2.2.2.2.2.2.2.2.2.2.2.1 v0.2.2.2.2.2.2.2.2.2.2.2.2.2.1 v0.2.2.2.2.2.2.2.2.2.2.2.2.2.2.1 v0.2.2.2.2.2.2.2.2.2.2.2.2.2.2.2.1 v0.2.2.2.2.2.2.2.2.2.2.2.2.2.2.2.2) (pc2 := 10) S 1 rfl h2 (by rw [eg3] <;> rfl) dX9_refuse_9 rfl ?_
  refine v_iload_n (pc2 := 11) S 1 dX9_refuse_10 rfl rfl rfl ?_
  exact v_iret S ⟨i0, (g3, v0.2.1, v0.2.2.1, v0.2.2.2.1, v0.2.2.2.2.1, v0.2.2.2.2.2.1, v0.2.2.2.2.2.2.1, v0.2.2.2.2.2.2.2.1, v0.2.2.2.2.2.2.2.2.1, v0.2.2.2.2.2.2.2.2.2.1, v0.2.2.2.2.2.2.2.2.2.2.1, v0.2.2.2.2.2.2.2.2.2.2.2.1, v0.2.2.2.2.2.2.2.2.2.2.2.2.1, v0.2.2.2.2.2.2.2.2.2.2.2.2.2.1, v0.2.2.2.2.2.2.2.2.2.2.2.2.2.2.1, v0.2.2.2.2.2.2.2.2.2.2.2.2.2.2.2.1, v0.2.2.2.2.2.2.2.2.2.2.2.2.2.2.2.2), rfl, rfl, hw⟩ dX9_refuse_11
set_option maxHeartbeats 4000000 in
set_option maxRecDepth 100000 in
theorem c_X9_openNow (l : Launch) (G : GG) (a0 : ModA) (v0 : ModV) (i0 : Int32) (Q : Int32 → ModV → Prop) (hw : wp_X9_openNow v0 i0 Q) : Con l G yX9_openNow cX9_openNow 3 (some .int) { frames := 4, cells := 0, slots := 0, locals := 91 } [.ref a0.1, .int i0] (wMod G a0 v0.1 v0.2.1 v0.2.2.1 v0.2.2.2.1 v0.2.2.2.2.1 v0.2.2.2.2.2.1 v0.2.2.2.2.2.2.1 v0.2.2.2.2.2.2.2.1 v0.2.2.2.2.2.2.2.2.1 v0.2.2.2.2.2.2.2.2.2.1 v0.2.2.2.2.2.2.2.2.2.2.1 v0.2.2.2.2.2.2.2.2.2.2.2.1 v0.2.2.2.2.2.2.2.2.2.2.2.2.1 v0.2.2.2.2.2.2.2.2.2.2.2.2.2.1 v0.2.2.2.2.2.2.2.2.2.2.2.2.2.2.1 v0.2.2.2.2.2.2.2.2.2.2.2.2.2.2.2.1 v0.2.2.2.2.2.2.2.2.2.2.2.2.2.2.2.2) (PI (fun u : ModV => wMod G a0 u.1 u.2.1 u.2.2.1 u.2.2.2.1 u.2.2.2.2.1 u.2.2.2.2.2.1 u.2.2.2.2.2.2.1 u.2.2.2.2.2.2.2.1 u.2.2.2.2.2.2.2.2.1 u.2.2.2.2.2.2.2.2.2.1 u.2.2.2.2.2.2.2.2.2.2.1 u.2.2.2.2.2.2.2.2.2.2.2.1 u.2.2.2.2.2.2.2.2.2.2.2.2.1 u.2.2.2.2.2.2.2.2.2.2.2.2.2.1 u.2.2.2.2.2.2.2.2.2.2.2.2.2.2.1 u.2.2.2.2.2.2.2.2.2.2.2.2.2.2.2.1 u.2.2.2.2.2.2.2.2.2.2.2.2.2.2.2.2) Q) 0 0 := by
  refine con_of RX9 rfl (by decide) [(0, .ref a0.1), (1, .int i0)] rfl (Nat.le_of_ble_eq_true rfl) ?_
  intro p e s m args below meth c S hname
  refine v_aload_n (pc2 := 1) S 0 dX9_openNow_0 rfl rfl rfl ?_
  refine v_iload_n (pc2 := 2) S 1 dX9_openNow_1 rfl rfl rfl ?_
  refine v_callV (pc2 := 5) (As := [.int i0]) (rest := []) S (c_X9_reason l G a0 v0 i0 _ hw) mf_X9_reason u_868 u_870 u_24 0 9 rfl rfl rfl rfl ⟨rfl, rfl⟩ ⟨Nat.le_of_ble_eq_true rfl, Nat.le_of_ble_eq_true rfl⟩ ⟨Nat.le_of_ble_eq_true rfl, Nat.le_of_ble_eq_true rfl⟩ (Nat.le_of_ble_eq_true rfl) dX9_openNow_2 (frW _) rfl (pi (fun r1 u2 hw => ?_))
  refine v_to (wMod G a0 v0.1 v0.2.1 v0.2.2.1 v0.2.2.2.1 v0.2.2.2.2.1 v0.2.2.2.2.2.1 v0.2.2.2.2.2.2.1 v0.2.2.2.2.2.2.2.1 v0.2.2.2.2.2.2.2.2.1 v0.2.2.2.2.2.2.2.2.2.1 v0.2.2.2.2.2.2.2.2.2.2.1 v0.2.2.2.2.2.2.2.2.2.2.2.1 v0.2.2.2.2.2.2.2.2.2.2.2.2.1 v0.2.2.2.2.2.2.2.2.2.2.2.2.2.1 v0.2.2.2.2.2.2.2.2.2.2.2.2.2.2.1 v0.2.2.2.2.2.2.2.2.2.2.2.2.2.2.2.1 v0.2.2.2.2.2.2.2.2.2.2.2.2.2.2.2.2) 5 [(0, .ref a0.1), (1, .int i0)] _ [.int r1] rfl rfl rfl rfl ?_
  refine v_istore_n (lv2 := [(0, .ref a0.1), (1, .int i0), (2, .int r1)]) (pc2 := 6) S dX9_openNow_5 rfl (by decide) [1, 2, 0] rfl rfl ?_
  refine v_iload_n (pc2 := 7) S 2 dX9_openNow_6 rfl rfl rfl ?_
  refine v_if_le (pc2 := 10) (tgt := 18) S dX9_openNow_7 (by decide) rfl (fun c3 => ?_) (fun c3 => ?_)
  · have hw := hw.1 c3
    refine v_bipush (v := 10) (pc2 := 20) S dX9_openNow_18 (by decide) rfl ?_
    refine v_aload_n (pc2 := 21) S 0 dX9_openNow_20 rfl rfl rfl ?_
    refine v_iload_n (pc2 := 22) S 1 dX9_openNow_21 rfl rfl rfl ?_
    refine v_callV (pc2 := 25) (As := [.int i0]) (rest := [.int (10 : Int32)]) S (c_X9_opens l G a0 v0 i0 _ hw) mf_X9_opens u_888 u_890 u_29 0 9 rfl rfl rfl rfl ⟨rfl, rfl⟩ ⟨Nat.le_of_ble_eq_true rfl, Nat.le_of_ble_eq_true rfl⟩ ⟨Nat.le_of_ble_eq_true rfl, Nat.le_of_ble_eq_true rfl⟩ (Nat.le_of_ble_eq_true rfl) dX9_openNow_22 (frW _) rfl (pi (fun r4 u5 hw => ?_))
    refine v_to (wMod G a0 u5.1 u5.2.1 u5.2.2.1 u5.2.2.2.1 u5.2.2.2.2.1 u5.2.2.2.2.2.1 u5.2.2.2.2.2.2.1 u5.2.2.2.2.2.2.2.1 u5.2.2.2.2.2.2.2.2.1 u5.2.2.2.2.2.2.2.2.2.1 u5.2.2.2.2.2.2.2.2.2.2.1 u5.2.2.2.2.2.2.2.2.2.2.2.1 u5.2.2.2.2.2.2.2.2.2.2.2.2.1 u5.2.2.2.2.2.2.2.2.2.2.2.2.2.1 u5.2.2.2.2.2.2.2.2.2.2.2.2.2.2.1 u5.2.2.2.2.2.2.2.2.2.2.2.2.2.2.2.1 u5.2.2.2.2.2.2.2.2.2.2.2.2.2.2.2.2) 25 [(0, .ref a0.1), (1, .int i0), (2, .int r1)] _ [.int r4, .int (10 : Int32)] rfl rfl rfl rfl ?_
    refine v_iadd (pc2 := 26) S dX9_openNow_25 rfl ?_
    exact v_iret S ⟨(10 : Int32) + r4, u5, rfl, rfl, hw⟩ dX9_openNow_26
  · have hw := hw.2 c3
    refine v_aload_n (pc2 := 11) S 0 dX9_openNow_10 rfl rfl rfl ?_
    refine v_iload_n (pc2 := 12) S 2 dX9_openNow_11 rfl rfl rfl ?_
    refine v_callV (pc2 := 15) (As := [.int r1]) (rest := []) S (c_X9_refuse l G a0 v0 r1 _ hw) mf_X9_refuse u_884 u_886 u_28 0 9 rfl rfl rfl rfl ⟨rfl, rfl⟩ ⟨Nat.le_of_ble_eq_true rfl, Nat.le_of_ble_eq_true rfl⟩ ⟨Nat.le_of_ble_eq_true rfl, Nat.le_of_ble_eq_true rfl⟩ (Nat.le_of_ble_eq_true rfl) dX9_openNow_12 (frW _) rfl (pi (fun r6 u7 hw => ?_))
    refine v_to (wMod G a0 u7.1 u7.2.1 u7.2.2.1 u7.2.2.2.1 u7.2.2.2.2.1 u7.2.2.2.2.2.1 u7.2.2.2.2.2.2.1 u7.2.2.2.2.2.2.2.1 u7.2.2.2.2.2.2.2.2.1 u7.2.2.2.2.2.2.2.2.2.1 u7.2.2.2.2.2.2.2.2.2.2.1 u7.2.2.2.2.2.2.2.2.2.2.2.1 u7.2.2.2.2.2.2.2.2.2.2.2.2.1 u7.2.2.2.2.2.2.2.2.2.2.2.2.2.1 u7.2.2.2.2.2.2.2.2.2.2.2.2.2.2.1 u7.2.2.2.2.2.2.2.2.2.2.2.2.2.2.2.1 u7.2.2.2.2.2.2.2.2.2.2.2.2.2.2.2.2) 15 [(0, .ref a0.1), (1, .int i0), (2, .int r1)] _ [.int r6] rfl rfl rfl rfl ?_
    refine v_goto (tgt := 26) S dX9_openNow_15 (by decide) ?_
    exact v_iret S ⟨r6, u7, rfl, rfl, hw⟩ dX9_openNow_26
set_option maxHeartbeats 4000000 in
set_option maxRecDepth 100000 in
theorem c_X9_shutNow (l : Launch) (G : GG) (a0 : ModA) (v0 : ModV) (i0 : Int32) (Q : Int32 → ModV → Prop) (hw : wp_X9_shutNow v0 i0 Q) : Con l G yX9_shutNow cX9_shutNow 2 (some .int) { frames := 2, cells := 0, slots := 0, locals := 45 } [.ref a0.1, .int i0] (wMod G a0 v0.1 v0.2.1 v0.2.2.1 v0.2.2.2.1 v0.2.2.2.2.1 v0.2.2.2.2.2.1 v0.2.2.2.2.2.2.1 v0.2.2.2.2.2.2.2.1 v0.2.2.2.2.2.2.2.2.1 v0.2.2.2.2.2.2.2.2.2.1 v0.2.2.2.2.2.2.2.2.2.2.1 v0.2.2.2.2.2.2.2.2.2.2.2.1 v0.2.2.2.2.2.2.2.2.2.2.2.2.1 v0.2.2.2.2.2.2.2.2.2.2.2.2.2.1 v0.2.2.2.2.2.2.2.2.2.2.2.2.2.2.1 v0.2.2.2.2.2.2.2.2.2.2.2.2.2.2.2.1 v0.2.2.2.2.2.2.2.2.2.2.2.2.2.2.2.2) (PI (fun u : ModV => wMod G a0 u.1 u.2.1 u.2.2.1 u.2.2.2.1 u.2.2.2.2.1 u.2.2.2.2.2.1 u.2.2.2.2.2.2.1 u.2.2.2.2.2.2.2.1 u.2.2.2.2.2.2.2.2.1 u.2.2.2.2.2.2.2.2.2.1 u.2.2.2.2.2.2.2.2.2.2.1 u.2.2.2.2.2.2.2.2.2.2.2.1 u.2.2.2.2.2.2.2.2.2.2.2.2.1 u.2.2.2.2.2.2.2.2.2.2.2.2.2.1 u.2.2.2.2.2.2.2.2.2.2.2.2.2.2.1 u.2.2.2.2.2.2.2.2.2.2.2.2.2.2.2.1 u.2.2.2.2.2.2.2.2.2.2.2.2.2.2.2.2) Q) 0 0 := by
  refine con_of RX9 rfl (by decide) [(0, .ref a0.1), (1, .int i0)] rfl (Nat.le_of_ble_eq_true rfl) ?_
  intro p e s m args below meth c S hname
  refine v_aload_n (pc2 := 1) S 0 dX9_shutNow_0 rfl rfl rfl ?_
  refine v_iload_n (pc2 := 2) S 1 dX9_shutNow_1 rfl rfl rfl ?_
  refine v_callV (pc2 := 5) (As := [.int i0]) (rest := []) S (c_X9_isOpen l G a0 v0 i0 _ hw) mf_X9_isOpen u_872 u_874 u_25 0 9 rfl rfl rfl rfl ⟨rfl, rfl⟩ ⟨Nat.le_of_ble_eq_true rfl, Nat.le_of_ble_eq_true rfl⟩ ⟨Nat.le_of_ble_eq_true rfl, Nat.le_of_ble_eq_true rfl⟩ (Nat.le_of_ble_eq_true rfl) dX9_shutNow_2 (frW _) rfl (pb (fun r1 u2 br1 hw => ?_))
  refine v_to (wMod G a0 v0.1 v0.2.1 v0.2.2.1 v0.2.2.2.1 v0.2.2.2.2.1 v0.2.2.2.2.2.1 v0.2.2.2.2.2.2.1 v0.2.2.2.2.2.2.2.1 v0.2.2.2.2.2.2.2.2.1 v0.2.2.2.2.2.2.2.2.2.1 v0.2.2.2.2.2.2.2.2.2.2.1 v0.2.2.2.2.2.2.2.2.2.2.2.1 v0.2.2.2.2.2.2.2.2.2.2.2.2.1 v0.2.2.2.2.2.2.2.2.2.2.2.2.2.1 v0.2.2.2.2.2.2.2.2.2.2.2.2.2.2.1 v0.2.2.2.2.2.2.2.2.2.2.2.2.2.2.2.1 v0.2.2.2.2.2.2.2.2.2.2.2.2.2.2.2.2) 5 [(0, .ref a0.1), (1, .int i0)] _ [.int r1] rfl rfl rfl rfl ?_
  refine v_if_ne (pc2 := 8) (tgt := 14) S dX9_shutNow_5 (by decide) rfl (fun c3 => ?_) (fun c3 => ?_)
  · have hw := hw.1 c3
    refine v_aload_n (pc2 := 15) S 0 dX9_shutNow_14 rfl rfl rfl ?_
    refine v_iload_n (pc2 := 16) S 1 dX9_shutNow_15 rfl rfl rfl ?_
    refine v_iconst (v := 2) (pc2 := 17) S dX9_shutNow_16 (by decide) rfl ?_
    refine v_callV (pc2 := 20) (As := [.int i0, .int (2 : Int32)]) (rest := []) S (c_X9_shuts l G a0 v0 i0 (2 : Int32) _ hw) mf_X9_shuts u_892 u_894 u_30 0 9 rfl rfl rfl rfl ⟨rfl, rfl⟩ ⟨Nat.le_of_ble_eq_true rfl, Nat.le_of_ble_eq_true rfl⟩ ⟨Nat.le_of_ble_eq_true rfl, Nat.le_of_ble_eq_true rfl⟩ (Nat.le_of_ble_eq_true rfl) dX9_shutNow_17 (frW _) rfl (pv (fun u5 hw => ?_))
    refine v_to (wMod G a0 u5.1 u5.2.1 u5.2.2.1 u5.2.2.2.1 u5.2.2.2.2.1 u5.2.2.2.2.2.1 u5.2.2.2.2.2.2.1 u5.2.2.2.2.2.2.2.1 u5.2.2.2.2.2.2.2.2.1 u5.2.2.2.2.2.2.2.2.2.1 u5.2.2.2.2.2.2.2.2.2.2.1 u5.2.2.2.2.2.2.2.2.2.2.2.1 u5.2.2.2.2.2.2.2.2.2.2.2.2.1 u5.2.2.2.2.2.2.2.2.2.2.2.2.2.1 u5.2.2.2.2.2.2.2.2.2.2.2.2.2.2.1 u5.2.2.2.2.2.2.2.2.2.2.2.2.2.2.2.1 u5.2.2.2.2.2.2.2.2.2.2.2.2.2.2.2.2) 20 [(0, .ref a0.1), (1, .int i0)] _ [] rfl rfl rfl rfl ?_
    refine v_bipush (v := 10) (pc2 := 22) S dX9_shutNow_20 (by decide) rfl ?_
    exact v_iret S ⟨(10 : Int32), u5, rfl, rfl, hw⟩ dX9_shutNow_22
  · have hw := hw.2 c3
    refine v_aload_n (pc2 := 9) S 0 dX9_shutNow_8 rfl rfl rfl ?_
    refine v_iconst (v := 3) (pc2 := 10) S dX9_shutNow_9 (by decide) rfl ?_
    refine v_callV (pc2 := 13) (As := [.int (3 : Int32)]) (rest := []) S (c_X9_refuse l G a0 v0 (3 : Int32) _ hw) mf_X9_refuse u_884 u_886 u_28 0 9 rfl rfl rfl rfl ⟨rfl, rfl⟩ ⟨Nat.le_of_ble_eq_true rfl, Nat.le_of_ble_eq_true rfl⟩ ⟨Nat.le_of_ble_eq_true rfl, Nat.le_of_ble_eq_true rfl⟩ (Nat.le_of_ble_eq_true rfl) dX9_shutNow_10 (frW _) rfl (pi (fun r6 u7 hw => ?_))
    refine v_to (wMod G a0 u7.1 u7.2.1 u7.2.2.1 u7.2.2.2.1 u7.2.2.2.2.1 u7.2.2.2.2.2.1 u7.2.2.2.2.2.2.1 u7.2.2.2.2.2.2.2.1 u7.2.2.2.2.2.2.2.2.1 u7.2.2.2.2.2.2.2.2.2.1 u7.2.2.2.2.2.2.2.2.2.2.1 u7.2.2.2.2.2.2.2.2.2.2.2.1 u7.2.2.2.2.2.2.2.2.2.2.2.2.1 u7.2.2.2.2.2.2.2.2.2.2.2.2.2.1 u7.2.2.2.2.2.2.2.2.2.2.2.2.2.2.1 u7.2.2.2.2.2.2.2.2.2.2.2.2.2.2.2.1 u7.2.2.2.2.2.2.2.2.2.2.2.2.2.2.2.2) 13 [(0, .ref a0.1), (1, .int i0)] _ [.int r6] rfl rfl rfl rfl ?_
    exact v_iret S ⟨r6, u7, rfl, rfl, hw⟩ dX9_shutNow_13
set_option maxHeartbeats 4000000 in
set_option maxRecDepth 100000 in
theorem c_X9_isAt (l : Launch) (G : GG) (a0 : ModA) (v0 : ModV) (i0 : Int32) (i1 : Int32) (Q : Int32 → Prop) (hw : wp_X9_isAt v0 i0 i1 Q) : Con l G yX9_isAt cX9_isAt 3 (some .boolean) { frames := 2, cells := 0, slots := 0, locals := 44 } [.ref a0.1, .int i0, .int i1] (wMod G a0 v0.1 v0.2.1 v0.2.2.1 v0.2.2.2.1 v0.2.2.2.2.1 v0.2.2.2.2.2.1 v0.2.2.2.2.2.2.1 v0.2.2.2.2.2.2.2.1 v0.2.2.2.2.2.2.2.2.1 v0.2.2.2.2.2.2.2.2.2.1 v0.2.2.2.2.2.2.2.2.2.2.1 v0.2.2.2.2.2.2.2.2.2.2.2.1 v0.2.2.2.2.2.2.2.2.2.2.2.2.1 v0.2.2.2.2.2.2.2.2.2.2.2.2.2.1 v0.2.2.2.2.2.2.2.2.2.2.2.2.2.2.1 v0.2.2.2.2.2.2.2.2.2.2.2.2.2.2.2.1 v0.2.2.2.2.2.2.2.2.2.2.2.2.2.2.2.2) (PB (fun _ : Unit => wMod G a0 v0.1 v0.2.1 v0.2.2.1 v0.2.2.2.1 v0.2.2.2.2.1 v0.2.2.2.2.2.1 v0.2.2.2.2.2.2.1 v0.2.2.2.2.2.2.2.1 v0.2.2.2.2.2.2.2.2.1 v0.2.2.2.2.2.2.2.2.2.1 v0.2.2.2.2.2.2.2.2.2.2.1 v0.2.2.2.2.2.2.2.2.2.2.2.1 v0.2.2.2.2.2.2.2.2.2.2.2.2.1 v0.2.2.2.2.2.2.2.2.2.2.2.2.2.1 v0.2.2.2.2.2.2.2.2.2.2.2.2.2.2.1 v0.2.2.2.2.2.2.2.2.2.2.2.2.2.2.2.1 v0.2.2.2.2.2.2.2.2.2.2.2.2.2.2.2.2) (fun r _ => Q r)) 0 0 := by
  refine con_of RX9 rfl (by decide) [(0, .ref a0.1), (1, .int i0), (2, .int i1)] rfl (Nat.le_of_ble_eq_true rfl) ?_
  intro p e s m args below meth c S hname
  refine v_aload_n (pc2 := 1) S 0 dX9_isAt_0 rfl rfl rfl ?_
  refine v_iload_n (pc2 := 2) S 2 dX9_isAt_1 rfl rfl rfl ?_
  refine v_aload_n (pc2 := 3) S 0 dX9_isAt_2 rfl rfl rfl ?_
  refine v_iload_n (pc2 := 4) S 1 dX9_isAt_3 rfl rfl rfl ?_
  refine v_iconst (v := 0) (pc2 := 5) S dX9_isAt_4 (by decide) rfl ?_
  refine v_callV (pc2 := 8) (As := [.int i0, .int (0 : Int32)]) (rest := [.int i1, .ref a0.1]) S (c_X9_ofGuest l G a0 v0 i0 (0 : Int32) _ hw) mf_X9_ofGuest u_931 u_933 u_37 0 9 rfl rfl rfl rfl ⟨rfl, rfl⟩ ⟨Nat.le_of_ble_eq_true rfl, Nat.le_of_ble_eq_true rfl⟩ ⟨Nat.le_of_ble_eq_true rfl, Nat.le_of_ble_eq_true rfl⟩ (Nat.le_of_ble_eq_true rfl) dX9_isAt_5 (frW _) rfl (pi (fun r1 u2 hw => ?_))
  refine v_to (wMod G a0 v0.1 v0.2.1 v0.2.2.1 v0.2.2.2.1 v0.2.2.2.2.1 v0.2.2.2.2.2.1 v0.2.2.2.2.2.2.1 v0.2.2.2.2.2.2.2.1 v0.2.2.2.2.2.2.2.2.1 v0.2.2.2.2.2.2.2.2.2.1 v0.2.2.2.2.2.2.2.2.2.2.1 v0.2.2.2.2.2.2.2.2.2.2.2.1 v0.2.2.2.2.2.2.2.2.2.2.2.2.1 v0.2.2.2.2.2.2.2.2.2.2.2.2.2.1 v0.2.2.2.2.2.2.2.2.2.2.2.2.2.2.1 v0.2.2.2.2.2.2.2.2.2.2.2.2.2.2.2.1 v0.2.2.2.2.2.2.2.2.2.2.2.2.2.2.2.2) 8 [(0, .ref a0.1), (1, .int i0), (2, .int i1)] _ [.int r1, .int i1, .ref a0.1] rfl rfl rfl rfl ?_
  refine v_callV (pc2 := 11) (As := [.int i1, .int r1]) (rest := []) S (c_X9_joins l G a0 v0 i1 r1 _ hw) mf_X9_joins u_900 u_902 u_32 0 9 rfl rfl rfl rfl ⟨rfl, rfl⟩ ⟨Nat.le_of_ble_eq_true rfl, Nat.le_of_ble_eq_true rfl⟩ ⟨Nat.le_of_ble_eq_true rfl, Nat.le_of_ble_eq_true rfl⟩ (Nat.le_of_ble_eq_true rfl) dX9_isAt_8 (frW _) rfl (pb (fun r3 u4 br3 hw => ?_))
  refine v_to (wMod G a0 v0.1 v0.2.1 v0.2.2.1 v0.2.2.2.1 v0.2.2.2.2.1 v0.2.2.2.2.2.1 v0.2.2.2.2.2.2.1 v0.2.2.2.2.2.2.2.1 v0.2.2.2.2.2.2.2.2.1 v0.2.2.2.2.2.2.2.2.2.1 v0.2.2.2.2.2.2.2.2.2.2.1 v0.2.2.2.2.2.2.2.2.2.2.2.1 v0.2.2.2.2.2.2.2.2.2.2.2.2.1 v0.2.2.2.2.2.2.2.2.2.2.2.2.2.1 v0.2.2.2.2.2.2.2.2.2.2.2.2.2.2.1 v0.2.2.2.2.2.2.2.2.2.2.2.2.2.2.2.1 v0.2.2.2.2.2.2.2.2.2.2.2.2.2.2.2.2) 11 [(0, .ref a0.1), (1, .int i0), (2, .int i1)] _ [.int r3] rfl rfl rfl rfl ?_
  exact v_zret S br3 ⟨r3, (), rfl, br3, rfl, hw⟩ dX9_isAt_11
set_option maxHeartbeats 4000000 in
set_option maxRecDepth 100000 in
theorem c_X9_hasKey (l : Launch) (G : GG) (a0 : ModA) (v0 : ModV) (i0 : Int32) (i1 : Int32) (Q : Int32 → Prop) (hw : wp_X9_hasKey v0 i0 i1 Q) : Con l G yX9_hasKey cX9_hasKey 3 (some .boolean) { frames := 1, cells := 0, slots := 0, locals := 22 } [.ref a0.1, .int i0, .int i1] (wMod G a0 v0.1 v0.2.1 v0.2.2.1 v0.2.2.2.1 v0.2.2.2.2.1 v0.2.2.2.2.2.1 v0.2.2.2.2.2.2.1 v0.2.2.2.2.2.2.2.1 v0.2.2.2.2.2.2.2.2.1 v0.2.2.2.2.2.2.2.2.2.1 v0.2.2.2.2.2.2.2.2.2.2.1 v0.2.2.2.2.2.2.2.2.2.2.2.1 v0.2.2.2.2.2.2.2.2.2.2.2.2.1 v0.2.2.2.2.2.2.2.2.2.2.2.2.2.1 v0.2.2.2.2.2.2.2.2.2.2.2.2.2.2.1 v0.2.2.2.2.2.2.2.2.2.2.2.2.2.2.2.1 v0.2.2.2.2.2.2.2.2.2.2.2.2.2.2.2.2) (PB (fun _ : Unit => wMod G a0 v0.1 v0.2.1 v0.2.2.1 v0.2.2.2.1 v0.2.2.2.2.1 v0.2.2.2.2.2.1 v0.2.2.2.2.2.2.1 v0.2.2.2.2.2.2.2.1 v0.2.2.2.2.2.2.2.2.1 v0.2.2.2.2.2.2.2.2.2.1 v0.2.2.2.2.2.2.2.2.2.2.1 v0.2.2.2.2.2.2.2.2.2.2.2.1 v0.2.2.2.2.2.2.2.2.2.2.2.2.1 v0.2.2.2.2.2.2.2.2.2.2.2.2.2.1 v0.2.2.2.2.2.2.2.2.2.2.2.2.2.2.1 v0.2.2.2.2.2.2.2.2.2.2.2.2.2.2.2.1 v0.2.2.2.2.2.2.2.2.2.2.2.2.2.2.2.2) (fun r _ => Q r)) 0 0 := by
  refine con_of RX9 rfl (by decide) [(0, .ref a0.1), (1, .int i0), (2, .int i1)] rfl (Nat.le_of_ble_eq_true rfl) ?_
  intro p e s m args below meth c S hname
  refine v_aload_n (pc2 := 1) S 0 dX9_hasKey_0 rfl rfl rfl ?_
  refine v_iload_n (pc2 := 2) S 1 dX9_hasKey_1 rfl rfl rfl ?_
  refine v_iconst (v := 1) (pc2 := 3) S dX9_hasKey_2 (by decide) rfl ?_
  refine v_callV (pc2 := 6) (As := [.int i0, .int (1 : Int32)]) (rest := []) S (c_X9_ofGuest l G a0 v0 i0 (1 : Int32) _ hw) mf_X9_ofGuest u_931 u_933 u_37 0 9 rfl rfl rfl rfl ⟨rfl, rfl⟩ ⟨Nat.le_of_ble_eq_true rfl, Nat.le_of_ble_eq_true rfl⟩ ⟨Nat.le_of_ble_eq_true rfl, Nat.le_of_ble_eq_true rfl⟩ (Nat.le_of_ble_eq_true rfl) dX9_hasKey_3 (frW _) rfl (pi (fun r1 u2 hw => ?_))
  refine v_to (wMod G a0 v0.1 v0.2.1 v0.2.2.1 v0.2.2.2.1 v0.2.2.2.2.1 v0.2.2.2.2.2.1 v0.2.2.2.2.2.2.1 v0.2.2.2.2.2.2.2.1 v0.2.2.2.2.2.2.2.2.1 v0.2.2.2.2.2.2.2.2.2.1 v0.2.2.2.2.2.2.2.2.2.2.1 v0.2.2.2.2.2.2.2.2.2.2.2.1 v0.2.2.2.2.2.2.2.2.2.2.2.2.1 v0.2.2.2.2.2.2.2.2.2.2.2.2.2.1 v0.2.2.2.2.2.2.2.2.2.2.2.2.2.2.1 v0.2.2.2.2.2.2.2.2.2.2.2.2.2.2.2.1 v0.2.2.2.2.2.2.2.2.2.2.2.2.2.2.2.2) 6 [(0, .ref a0.1), (1, .int i0), (2, .int i1)] _ [.int r1] rfl rfl rfl rfl ?_
  refine v_iload_n (pc2 := 7) S 2 dX9_hasKey_6 rfl rfl rfl ?_
  refine v_ishr (pc2 := 8) S dX9_hasKey_7 rfl ?_
  refine v_iconst (v := 1) (pc2 := 9) S dX9_hasKey_8 (by decide) rfl ?_
  refine v_iand (pc2 := 10) S dX9_hasKey_9 rfl ?_
  refine v_iconst (v := 1) (pc2 := 11) S dX9_hasKey_10 (by decide) rfl ?_
  refine v_icmp_ne (pc2 := 14) (tgt := 18) S dX9_hasKey_11 (by decide) rfl (fun c3 => ?_) (fun c3 => ?_)
  · have hw := hw.1 c3
    refine v_iconst (v := 0) (pc2 := 19) S dX9_hasKey_18 (by decide) rfl ?_
    exact v_zret S (by decide) ⟨(0 : Int32), (), rfl, (by decide), rfl, hw⟩ dX9_hasKey_19
  · have hw := hw.2 c3
    refine v_iconst (v := 1) (pc2 := 15) S dX9_hasKey_14 (by decide) rfl ?_
    refine v_goto (tgt := 19) S dX9_hasKey_15 (by decide) ?_
    exact v_zret S (by decide) ⟨(1 : Int32), (), rfl, (by decide), rfl, hw⟩ dX9_hasKey_19
set_option maxHeartbeats 4000000 in
set_option maxRecDepth 100000 in
theorem c_X9_guestOpensNow (l : Launch) (G : GG) (a0 : ModA) (v0 : ModV) (i0 : Int32) (i1 : Int32) (Q : Int32 → ModV → Prop) (hw : wp_X9_guestOpensNow v0 i0 i1 Q) : Con l G yX9_guestOpensNow cX9_guestOpensNow 3 (some .int) { frames := 5, cells := 0, slots := 0, locals := 113 } [.ref a0.1, .int i0, .int i1] (wMod G a0 v0.1 v0.2.1 v0.2.2.1 v0.2.2.2.1 v0.2.2.2.2.1 v0.2.2.2.2.2.1 v0.2.2.2.2.2.2.1 v0.2.2.2.2.2.2.2.1 v0.2.2.2.2.2.2.2.2.1 v0.2.2.2.2.2.2.2.2.2.1 v0.2.2.2.2.2.2.2.2.2.2.1 v0.2.2.2.2.2.2.2.2.2.2.2.1 v0.2.2.2.2.2.2.2.2.2.2.2.2.1 v0.2.2.2.2.2.2.2.2.2.2.2.2.2.1 v0.2.2.2.2.2.2.2.2.2.2.2.2.2.2.1 v0.2.2.2.2.2.2.2.2.2.2.2.2.2.2.2.1 v0.2.2.2.2.2.2.2.2.2.2.2.2.2.2.2.2) (PI (fun u : ModV => wMod G a0 u.1 u.2.1 u.2.2.1 u.2.2.2.1 u.2.2.2.2.1 u.2.2.2.2.2.1 u.2.2.2.2.2.2.1 u.2.2.2.2.2.2.2.1 u.2.2.2.2.2.2.2.2.1 u.2.2.2.2.2.2.2.2.2.1 u.2.2.2.2.2.2.2.2.2.2.1 u.2.2.2.2.2.2.2.2.2.2.2.1 u.2.2.2.2.2.2.2.2.2.2.2.2.1 u.2.2.2.2.2.2.2.2.2.2.2.2.2.1 u.2.2.2.2.2.2.2.2.2.2.2.2.2.2.1 u.2.2.2.2.2.2.2.2.2.2.2.2.2.2.2.1 u.2.2.2.2.2.2.2.2.2.2.2.2.2.2.2.2) Q) 0 0 := by
  refine con_of RX9 rfl (by decide) [(0, .ref a0.1), (1, .int i0), (2, .int i1)] rfl (Nat.le_of_ble_eq_true rfl) ?_
  intro p e s m args below meth c S hname
  refine v_aload_n (pc2 := 1) S 0 dX9_guestOpensNow_0 rfl rfl rfl ?_
  refine v_iload_n (pc2 := 2) S 1 dX9_guestOpensNow_1 rfl rfl rfl ?_
  refine v_iload_n (pc2 := 3) S 2 dX9_guestOpensNow_2 rfl rfl rfl ?_
  refine v_callV (pc2 := 6) (As := [.int i0, .int i1]) (rest := []) S (c_X9_isAt l G a0 v0 i0 i1 _ hw) mf_X9_isAt u_927 u_929 u_36 0 9 rfl rfl rfl rfl ⟨rfl, rfl⟩ ⟨Nat.le_of_ble_eq_true rfl, Nat.le_of_ble_eq_true rfl⟩ ⟨Nat.le_of_ble_eq_true rfl, Nat.le_of_ble_eq_true rfl⟩ (Nat.le_of_ble_eq_true rfl) dX9_guestOpensNow_3 (frW _) rfl (pb (fun r1 u2 br1 hw => ?_))
  refine v_to (wMod G a0 v0.1 v0.2.1 v0.2.2.1 v0.2.2.2.1 v0.2.2.2.2.1 v0.2.2.2.2.2.1 v0.2.2.2.2.2.2.1 v0.2.2.2.2.2.2.2.1 v0.2.2.2.2.2.2.2.2.1 v0.2.2.2.2.2.2.2.2.2.1 v0.2.2.2.2.2.2.2.2.2.2.1 v0.2.2.2.2.2.2.2.2.2.2.2.1 v0.2.2.2.2.2.2.2.2.2.2.2.2.1 v0.2.2.2.2.2.2.2.2.2.2.2.2.2.1 v0.2.2.2.2.2.2.2.2.2.2.2.2.2.2.1 v0.2.2.2.2.2.2.2.2.2.2.2.2.2.2.2.1 v0.2.2.2.2.2.2.2.2.2.2.2.2.2.2.2.2) 6 [(0, .ref a0.1), (1, .int i0), (2, .int i1)] _ [.int r1] rfl rfl rfl rfl ?_
  refine v_if_ne (pc2 := 9) (tgt := 17) S dX9_guestOpensNow_6 (by decide) rfl (fun c3 => ?_) (fun c3 => ?_)
  · have hw := hw.1 c3
    refine v_aload_n (pc2 := 18) S 0 dX9_guestOpensNow_17 rfl rfl rfl ?_
    refine v_iload_n (pc2 := 19) S 1 dX9_guestOpensNow_18 rfl rfl rfl ?_
    refine v_iload_n (pc2 := 20) S 2 dX9_guestOpensNow_19 rfl rfl rfl ?_
    refine v_callV (pc2 := 23) (As := [.int i0, .int i1]) (rest := []) S (c_X9_hasKey l G a0 v0 i0 i1 _ hw) mf_X9_hasKey u_935 u_937 u_38 0 9 rfl rfl rfl rfl ⟨rfl, rfl⟩ ⟨Nat.le_of_ble_eq_true rfl, Nat.le_of_ble_eq_true rfl⟩ ⟨Nat.le_of_ble_eq_true rfl, Nat.le_of_ble_eq_true rfl⟩ (Nat.le_of_ble_eq_true rfl) dX9_guestOpensNow_20 (frW _) rfl (pb (fun r4 u5 br4 hw => ?_))
    refine v_to (wMod G a0 v0.1 v0.2.1 v0.2.2.1 v0.2.2.2.1 v0.2.2.2.2.1 v0.2.2.2.2.2.1 v0.2.2.2.2.2.2.1 v0.2.2.2.2.2.2.2.1 v0.2.2.2.2.2.2.2.2.1 v0.2.2.2.2.2.2.2.2.2.1 v0.2.2.2.2.2.2.2.2.2.2.1 v0.2.2.2.2.2.2.2.2.2.2.2.1 v0.2.2.2.2.2.2.2.2.2.2.2.2.1 v0.2.2.2.2.2.2.2.2.2.2.2.2.2.1 v0.2.2.2.2.2.2.2.2.2.2.2.2.2.2.1 v0.2.2.2.2.2.2.2.2.2.2.2.2.2.2.2.1 v0.2.2.2.2.2.2.2.2.2.2.2.2.2.2.2.2) 23 [(0, .ref a0.1), (1, .int i0), (2, .int i1)] _ [.int r4] rfl rfl rfl rfl ?_
    refine v_if_eq (pc2 := 26) (tgt := 34) S dX9_guestOpensNow_23 (by decide) rfl (fun c6 => ?_) (fun c6 => ?_)
    · have hw := hw.1 c6
      refine v_aload_n (pc2 := 35) S 0 dX9_guestOpensNow_34 rfl rfl rfl ?_
      refine v_bipush (v := 6) (pc2 := 37) S dX9_guestOpensNow_35 (by decide) rfl ?_
      refine v_callV (pc2 := 40) (As := [.int (6 : Int32)]) (rest := []) S (c_X9_refuse l G a0 v0 (6 : Int32) _ hw) mf_X9_refuse u_884 u_886 u_28 0 9 rfl rfl rfl rfl ⟨rfl, rfl⟩ ⟨Nat.le_of_ble_eq_true rfl, Nat.le_of_ble_eq_true rfl⟩ ⟨Nat.le_of_ble_eq_true rfl, Nat.le_of_ble_eq_true rfl⟩ (Nat.le_of_ble_eq_true rfl) dX9_guestOpensNow_37 (frW _) rfl (pi (fun r7 u8 hw => ?_))
      refine v_to (wMod G a0 u8.1 u8.2.1 u8.2.2.1 u8.2.2.2.1 u8.2.2.2.2.1 u8.2.2.2.2.2.1 u8.2.2.2.2.2.2.1 u8.2.2.2.2.2.2.2.1 u8.2.2.2.2.2.2.2.2.1 u8.2.2.2.2.2.2.2.2.2.1 u8.2.2.2.2.2.2.2.2.2.2.1 u8.2.2.2.2.2.2.2.2.2.2.2.1 u8.2.2.2.2.2.2.2.2.2.2.2.2.1 u8.2.2.2.2.2.2.2.2.2.2.2.2.2.1 u8.2.2.2.2.2.2.2.2.2.2.2.2.2.2.1 u8.2.2.2.2.2.2.2.2.2.2.2.2.2.2.2.1 u8.2.2.2.2.2.2.2.2.2.2.2.2.2.2.2.2) 40 [(0, .ref a0.1), (1, .int i0), (2, .int i1)] _ [.int r7] rfl rfl rfl rfl ?_
      exact v_iret S ⟨r7, u8, rfl, rfl, hw⟩ dX9_guestOpensNow_40
    · have hw := hw.2 c6
      refine v_aload_n (pc2 := 27) S 0 dX9_guestOpensNow_26 rfl rfl rfl ?_
      refine v_iload_n (pc2 := 28) S 2 dX9_guestOpensNow_27 rfl rfl rfl ?_
      refine v_callV (pc2 := 31) (As := [.int i1]) (rest := []) S (c_X9_openNow l G a0 v0 i1 _ hw) mf_X9_openNow u_864 u_866 u_23 0 9 rfl rfl rfl rfl ⟨rfl, rfl⟩ ⟨Nat.le_of_ble_eq_true rfl, Nat.le_of_ble_eq_true rfl⟩ ⟨Nat.le_of_ble_eq_true rfl, Nat.le_of_ble_eq_true rfl⟩ (Nat.le_of_ble_eq_true rfl) dX9_guestOpensNow_28 (frW _) rfl (pi (fun r9 u10 hw => ?_))
      refine v_to (wMod G a0 u10.1 u10.2.1 u10.2.2.1 u10.2.2.2.1 u10.2.2.2.2.1 u10.2.2.2.2.2.1 u10.2.2.2.2.2.2.1 u10.2.2.2.2.2.2.2.1 u10.2.2.2.2.2.2.2.2.1 u10.2.2.2.2.2.2.2.2.2.1 u10.2.2.2.2.2.2.2.2.2.2.1 u10.2.2.2.2.2.2.2.2.2.2.2.1 u10.2.2.2.2.2.2.2.2.2.2.2.2.1 u10.2.2.2.2.2.2.2.2.2.2.2.2.2.1 u10.2.2.2.2.2.2.2.2.2.2.2.2.2.2.1 u10.2.2.2.2.2.2.2.2.2.2.2.2.2.2.2.1 u10.2.2.2.2.2.2.2.2.2.2.2.2.2.2.2.2) 31 [(0, .ref a0.1), (1, .int i0), (2, .int i1)] _ [.int r9] rfl rfl rfl rfl ?_
      refine v_goto (tgt := 40) S dX9_guestOpensNow_31 (by decide) ?_
      exact v_iret S ⟨r9, u10, rfl, rfl, hw⟩ dX9_guestOpensNow_40
  · have hw := hw.2 c3
    refine v_aload_n (pc2 := 10) S 0 dX9_guestOpensNow_9 rfl rfl rfl ?_
    refine v_iconst (v := 5) (pc2 := 11) S dX9_guestOpensNow_10 (by decide) rfl ?_
    refine v_callV (pc2 := 14) (As := [.int (5 : Int32)]) (rest := []) S (c_X9_refuse l G a0 v0 (5 : Int32) _ hw) mf_X9_refuse u_884 u_886 u_28 0 9 rfl rfl rfl rfl ⟨rfl, rfl⟩ ⟨Nat.le_of_ble_eq_true rfl, Nat.le_of_ble_eq_true rfl⟩ ⟨Nat.le_of_ble_eq_true rfl, Nat.le_of_ble_eq_true rfl⟩ (Nat.le_of_ble_eq_true rfl) dX9_guestOpensNow_11 (frW _) rfl (pi (fun r11 u12 hw => ?_))
    refine v_to (wMod G a0 u12.1 u12.2.1 u12.2.2.1 u12.2.2.2.1 u12.2.2.2.2.1 u12.2.2.2.2.2.1 u12.2.2.2.2.2.2.1 u12.2.2.2.2.2.2.2.1 u12.2.2.2.2.2.2.2.2.1 u12.2.2.2.2.2.2.2.2.2.1 u12.2.2.2.2.2.2.2.2.2.2.1 u12.2.2.2.2.2.2.2.2.2.2.2.1 u12.2.2.2.2.2.2.2.2.2.2.2.2.1 u12.2.2.2.2.2.2.2.2.2.2.2.2.2.1 u12.2.2.2.2.2.2.2.2.2.2.2.2.2.2.1 u12.2.2.2.2.2.2.2.2.2.2.2.2.2.2.2.1 u12.2.2.2.2.2.2.2.2.2.2.2.2.2.2.2.2) 14 [(0, .ref a0.1), (1, .int i0), (2, .int i1)] _ [.int r11] rfl rfl rfl rfl ?_
    refine v_goto (tgt := 40) S dX9_guestOpensNow_14 (by decide) ?_
    exact v_iret S ⟨r11, u12, rfl, rfl, hw⟩ dX9_guestOpensNow_40
set_option maxHeartbeats 4000000 in
set_option maxRecDepth 100000 in
theorem c_X9_guestShutsNow (l : Launch) (G : GG) (a0 : ModA) (v0 : ModV) (i0 : Int32) (i1 : Int32) (Q : Int32 → ModV → Prop) (hw : wp_X9_guestShutsNow v0 i0 i1 Q) : Con l G yX9_guestShutsNow cX9_guestShutsNow 3 (some .int) { frames := 3, cells := 0, slots := 0, locals := 66 } [.ref a0.1, .int i0, .int i1] (wMod G a0 v0.1 v0.2.1 v0.2.2.1 v0.2.2.2.1 v0.2.2.2.2.1 v0.2.2.2.2.2.1 v0.2.2.2.2.2.2.1 v0.2.2.2.2.2.2.2.1 v0.2.2.2.2.2.2.2.2.1 v0.2.2.2.2.2.2.2.2.2.1 v0.2.2.2.2.2.2.2.2.2.2.1 v0.2.2.2.2.2.2.2.2.2.2.2.1 v0.2.2.2.2.2.2.2.2.2.2.2.2.1 v0.2.2.2.2.2.2.2.2.2.2.2.2.2.1 v0.2.2.2.2.2.2.2.2.2.2.2.2.2.2.1 v0.2.2.2.2.2.2.2.2.2.2.2.2.2.2.2.1 v0.2.2.2.2.2.2.2.2.2.2.2.2.2.2.2.2) (PI (fun u : ModV => wMod G a0 u.1 u.2.1 u.2.2.1 u.2.2.2.1 u.2.2.2.2.1 u.2.2.2.2.2.1 u.2.2.2.2.2.2.1 u.2.2.2.2.2.2.2.1 u.2.2.2.2.2.2.2.2.1 u.2.2.2.2.2.2.2.2.2.1 u.2.2.2.2.2.2.2.2.2.2.1 u.2.2.2.2.2.2.2.2.2.2.2.1 u.2.2.2.2.2.2.2.2.2.2.2.2.1 u.2.2.2.2.2.2.2.2.2.2.2.2.2.1 u.2.2.2.2.2.2.2.2.2.2.2.2.2.2.1 u.2.2.2.2.2.2.2.2.2.2.2.2.2.2.2.1 u.2.2.2.2.2.2.2.2.2.2.2.2.2.2.2.2) Q) 0 0 := by
  refine con_of RX9 rfl (by decide) [(0, .ref a0.1), (1, .int i0), (2, .int i1)] rfl (Nat.le_of_ble_eq_true rfl) ?_
  intro p e s m args below meth c S hname
  refine v_aload_n (pc2 := 1) S 0 dX9_guestShutsNow_0 rfl rfl rfl ?_
  refine v_iload_n (pc2 := 2) S 1 dX9_guestShutsNow_1 rfl rfl rfl ?_
  refine v_iload_n (pc2 := 3) S 2 dX9_guestShutsNow_2 rfl rfl rfl ?_
  refine v_callV (pc2 := 6) (As := [.int i0, .int i1]) (rest := []) S (c_X9_isAt l G a0 v0 i0 i1 _ hw) mf_X9_isAt u_927 u_929 u_36 0 9 rfl rfl rfl rfl ⟨rfl, rfl⟩ ⟨Nat.le_of_ble_eq_true rfl, Nat.le_of_ble_eq_true rfl⟩ ⟨Nat.le_of_ble_eq_true rfl, Nat.le_of_ble_eq_true rfl⟩ (Nat.le_of_ble_eq_true rfl) dX9_guestShutsNow_3 (frW _) rfl (pb (fun r1 u2 br1 hw => ?_))
  refine v_to (wMod G a0 v0.1 v0.2.1 v0.2.2.1 v0.2.2.2.1 v0.2.2.2.2.1 v0.2.2.2.2.2.1 v0.2.2.2.2.2.2.1 v0.2.2.2.2.2.2.2.1 v0.2.2.2.2.2.2.2.2.1 v0.2.2.2.2.2.2.2.2.2.1 v0.2.2.2.2.2.2.2.2.2.2.1 v0.2.2.2.2.2.2.2.2.2.2.2.1 v0.2.2.2.2.2.2.2.2.2.2.2.2.1 v0.2.2.2.2.2.2.2.2.2.2.2.2.2.1 v0.2.2.2.2.2.2.2.2.2.2.2.2.2.2.1 v0.2.2.2.2.2.2.2.2.2.2.2.2.2.2.2.1 v0.2.2.2.2.2.2.2.2.2.2.2.2.2.2.2.2) 6 [(0, .ref a0.1), (1, .int i0), (2, .int i1)] _ [.int r1] rfl rfl rfl rfl ?_
  refine v_if_eq (pc2 := 9) (tgt := 17) S dX9_guestShutsNow_6 (by decide) rfl (fun c3 => ?_) (fun c3 => ?_)
  · have hw := hw.1 c3
    refine v_aload_n (pc2 := 18) S 0 dX9_guestShutsNow_17 rfl rfl rfl ?_
    refine v_iconst (v := 5) (pc2 := 19) S dX9_guestShutsNow_18 (by decide) rfl ?_
    refine v_callV (pc2 := 22) (As := [.int (5 : Int32)]) (rest := []) S (c_X9_refuse l G a0 v0 (5 : Int32) _ hw) mf_X9_refuse u_884 u_886 u_28 0 9 rfl rfl rfl rfl ⟨rfl, rfl⟩ ⟨Nat.le_of_ble_eq_true rfl, Nat.le_of_ble_eq_true rfl⟩ ⟨Nat.le_of_ble_eq_true rfl, Nat.le_of_ble_eq_true rfl⟩ (Nat.le_of_ble_eq_true rfl) dX9_guestShutsNow_19 (frW _) rfl (pi (fun r4 u5 hw => ?_))
    refine v_to (wMod G a0 u5.1 u5.2.1 u5.2.2.1 u5.2.2.2.1 u5.2.2.2.2.1 u5.2.2.2.2.2.1 u5.2.2.2.2.2.2.1 u5.2.2.2.2.2.2.2.1 u5.2.2.2.2.2.2.2.2.1 u5.2.2.2.2.2.2.2.2.2.1 u5.2.2.2.2.2.2.2.2.2.2.1 u5.2.2.2.2.2.2.2.2.2.2.2.1 u5.2.2.2.2.2.2.2.2.2.2.2.2.1 u5.2.2.2.2.2.2.2.2.2.2.2.2.2.1 u5.2.2.2.2.2.2.2.2.2.2.2.2.2.2.1 u5.2.2.2.2.2.2.2.2.2.2.2.2.2.2.2.1 u5.2.2.2.2.2.2.2.2.2.2.2.2.2.2.2.2) 22 [(0, .ref a0.1), (1, .int i0), (2, .int i1)] _ [.int r4] rfl rfl rfl rfl ?_
    exact v_iret S ⟨r4, u5, rfl, rfl, hw⟩ dX9_guestShutsNow_22
  · have hw := hw.2 c3
    refine v_aload_n (pc2 := 10) S 0 dX9_guestShutsNow_9 rfl rfl rfl ?_
    refine v_iload_n (pc2 := 11) S 2 dX9_guestShutsNow_10 rfl rfl rfl ?_
    refine v_callV (pc2 := 14) (As := [.int i1]) (rest := []) S (c_X9_shutNow l G a0 v0 i1 _ hw) mf_X9_shutNow u_912 u_914 u_34 0 9 rfl rfl rfl rfl ⟨rfl, rfl⟩ ⟨Nat.le_of_ble_eq_true rfl, Nat.le_of_ble_eq_true rfl⟩ ⟨Nat.le_of_ble_eq_true rfl, Nat.le_of_ble_eq_true rfl⟩ (Nat.le_of_ble_eq_true rfl) dX9_guestShutsNow_11 (frW _) rfl (pi (fun r6 u7 hw => ?_))
    refine v_to (wMod G a0 u7.1 u7.2.1 u7.2.2.1 u7.2.2.2.1 u7.2.2.2.2.1 u7.2.2.2.2.2.1 u7.2.2.2.2.2.2.1 u7.2.2.2.2.2.2.2.1 u7.2.2.2.2.2.2.2.2.1 u7.2.2.2.2.2.2.2.2.2.1 u7.2.2.2.2.2.2.2.2.2.2.1 u7.2.2.2.2.2.2.2.2.2.2.2.1 u7.2.2.2.2.2.2.2.2.2.2.2.2.1 u7.2.2.2.2.2.2.2.2.2.2.2.2.2.1 u7.2.2.2.2.2.2.2.2.2.2.2.2.2.2.1 u7.2.2.2.2.2.2.2.2.2.2.2.2.2.2.2.1 u7.2.2.2.2.2.2.2.2.2.2.2.2.2.2.2.2) 14 [(0, .ref a0.1), (1, .int i0), (2, .int i1)] _ [.int r6] rfl rfl rfl rfl ?_
    refine v_goto (tgt := 22) S dX9_guestShutsNow_14 (by decide) ?_
    exact v_iret S ⟨r6, u7, rfl, rfl, hw⟩ dX9_guestShutsNow_22
set_option maxHeartbeats 4000000 in
set_option maxRecDepth 100000 in
theorem c_X9_across (l : Launch) (G : GG) (a0 : ModA) (v0 : ModV) (i0 : Int32) (i1 : Int32) (Q : Int32 → Prop) (hw : wp_X9_across v0 i0 i1 Q) : Con l G yX9_across cX9_across 3 (some .int) { frames := 1, cells := 0, slots := 0, locals := 22 } [.ref a0.1, .int i0, .int i1] (wMod G a0 v0.1 v0.2.1 v0.2.2.1 v0.2.2.2.1 v0.2.2.2.2.1 v0.2.2.2.2.2.1 v0.2.2.2.2.2.2.1 v0.2.2.2.2.2.2.2.1 v0.2.2.2.2.2.2.2.2.1 v0.2.2.2.2.2.2.2.2.2.1 v0.2.2.2.2.2.2.2.2.2.2.1 v0.2.2.2.2.2.2.2.2.2.2.2.1 v0.2.2.2.2.2.2.2.2.2.2.2.2.1 v0.2.2.2.2.2.2.2.2.2.2.2.2.2.1 v0.2.2.2.2.2.2.2.2.2.2.2.2.2.2.1 v0.2.2.2.2.2.2.2.2.2.2.2.2.2.2.2.1 v0.2.2.2.2.2.2.2.2.2.2.2.2.2.2.2.2) (PI (fun _ : Unit => wMod G a0 v0.1 v0.2.1 v0.2.2.1 v0.2.2.2.1 v0.2.2.2.2.1 v0.2.2.2.2.2.1 v0.2.2.2.2.2.2.1 v0.2.2.2.2.2.2.2.1 v0.2.2.2.2.2.2.2.2.1 v0.2.2.2.2.2.2.2.2.2.1 v0.2.2.2.2.2.2.2.2.2.2.1 v0.2.2.2.2.2.2.2.2.2.2.2.1 v0.2.2.2.2.2.2.2.2.2.2.2.2.1 v0.2.2.2.2.2.2.2.2.2.2.2.2.2.1 v0.2.2.2.2.2.2.2.2.2.2.2.2.2.2.1 v0.2.2.2.2.2.2.2.2.2.2.2.2.2.2.2.1 v0.2.2.2.2.2.2.2.2.2.2.2.2.2.2.2.2) (fun r _ => Q r)) 0 0 := by
  refine con_of RX9 rfl (by decide) [(0, .ref a0.1), (1, .int i0), (2, .int i1)] rfl (Nat.le_of_ble_eq_true rfl) ?_
  intro p e s m args below meth c S hname
  refine v_aload_n (pc2 := 1) S 0 dX9_across_0 rfl rfl rfl ?_
  refine v_iload_n (pc2 := 2) S 1 dX9_across_1 rfl rfl rfl ?_
  refine v_iconst (v := 1) (pc2 := 3) S dX9_across_2 (by decide) rfl ?_
  refine v_callV (pc2 := 6) (As := [.int i0, .int (1 : Int32)]) (rest := []) S (c_X9_of l G a0 v0 i0 (1 : Int32) _ hw) mf_X9_of u_842 u_844 u_21 0 9 rfl rfl rfl rfl ⟨rfl, rfl⟩ ⟨Nat.le_of_ble_eq_true rfl, Nat.le_of_ble_eq_true rfl⟩ ⟨Nat.le_of_ble_eq_true rfl, Nat.le_of_ble_eq_true rfl⟩ (Nat.le_of_ble_eq_true rfl) dX9_across_3 (frW _) rfl (pi (fun r1 u2 hw => ?_))
  refine v_to (wMod G a0 v0.1 v0.2.1 v0.2.2.1 v0.2.2.2.1 v0.2.2.2.2.1 v0.2.2.2.2.2.1 v0.2.2.2.2.2.2.1 v0.2.2.2.2.2.2.2.1 v0.2.2.2.2.2.2.2.2.1 v0.2.2.2.2.2.2.2.2.2.1 v0.2.2.2.2.2.2.2.2.2.2.1 v0.2.2.2.2.2.2.2.2.2.2.2.1 v0.2.2.2.2.2.2.2.2.2.2.2.2.1 v0.2.2.2.2.2.2.2.2.2.2.2.2.2.1 v0.2.2.2.2.2.2.2.2.2.2.2.2.2.2.1 v0.2.2.2.2.2.2.2.2.2.2.2.2.2.2.2.1 v0.2.2.2.2.2.2.2.2.2.2.2.2.2.2.2.2) 6 [(0, .ref a0.1), (1, .int i0), (2, .int i1)] _ [.int r1] rfl rfl rfl rfl ?_
  refine v_iload_n (pc2 := 7) S 2 dX9_across_6 rfl rfl rfl ?_
  refine v_icmp_ne (pc2 := 10) (tgt := 19) S dX9_across_7 (by decide) rfl (fun c3 => ?_) (fun c3 => ?_)
  · have hw := hw.1 c3
    refine v_aload_n (pc2 := 20) S 0 dX9_across_19 rfl rfl rfl ?_
    refine v_iload_n (pc2 := 21) S 1 dX9_across_20 rfl rfl rfl ?_
    refine v_iconst (v := 1) (pc2 := 22) S dX9_across_21 (by decide) rfl ?_
    refine v_callV (pc2 := 25) (As := [.int i0, .int (1 : Int32)]) (rest := []) S (c_X9_of l G a0 v0 i0 (1 : Int32) _ hw) mf_X9_of u_842 u_844 u_21 0 9 rfl rfl rfl rfl ⟨rfl, rfl⟩ ⟨Nat.le_of_ble_eq_true rfl, Nat.le_of_ble_eq_true rfl⟩ ⟨Nat.le_of_ble_eq_true rfl, Nat.le_of_ble_eq_true rfl⟩ (Nat.le_of_ble_eq_true rfl) dX9_across_22 (frW _) rfl (pi (fun r4 u5 hw => ?_))
    refine v_to (wMod G a0 v0.1 v0.2.1 v0.2.2.1 v0.2.2.2.1 v0.2.2.2.2.1 v0.2.2.2.2.2.1 v0.2.2.2.2.2.2.1 v0.2.2.2.2.2.2.2.1 v0.2.2.2.2.2.2.2.2.1 v0.2.2.2.2.2.2.2.2.2.1 v0.2.2.2.2.2.2.2.2.2.2.1 v0.2.2.2.2.2.2.2.2.2.2.2.1 v0.2.2.2.2.2.2.2.2.2.2.2.2.1 v0.2.2.2.2.2.2.2.2.2.2.2.2.2.1 v0.2.2.2.2.2.2.2.2.2.2.2.2.2.2.1 v0.2.2.2.2.2.2.2.2.2.2.2.2.2.2.2.1 v0.2.2.2.2.2.2.2.2.2.2.2.2.2.2.2.2) 25 [(0, .ref a0.1), (1, .int i0), (2, .int i1)] _ [.int r4] rfl rfl rfl rfl ?_
    exact v_iret S ⟨r4, (), rfl, rfl, hw⟩ dX9_across_25
  · have hw := hw.2 c3
    refine v_aload_n (pc2 := 11) S 0 dX9_across_10 rfl rfl rfl ?_
    refine v_iload_n (pc2 := 12) S 1 dX9_across_11 rfl rfl rfl ?_
    refine v_iconst (v := 2) (pc2 := 13) S dX9_across_12 (by decide) rfl ?_
    refine v_callV (pc2 := 16) (As := [.int i0, .int (2 : Int32)]) (rest := []) S (c_X9_of l G a0 v0 i0 (2 : Int32) _ hw) mf_X9_of u_842 u_844 u_21 0 9 rfl rfl rfl rfl ⟨rfl, rfl⟩ ⟨Nat.le_of_ble_eq_true rfl, Nat.le_of_ble_eq_true rfl⟩ ⟨Nat.le_of_ble_eq_true rfl, Nat.le_of_ble_eq_true rfl⟩ (Nat.le_of_ble_eq_true rfl) dX9_across_13 (frW _) rfl (pi (fun r6 u7 hw => ?_))
    refine v_to (wMod G a0 v0.1 v0.2.1 v0.2.2.1 v0.2.2.2.1 v0.2.2.2.2.1 v0.2.2.2.2.2.1 v0.2.2.2.2.2.2.1 v0.2.2.2.2.2.2.2.1 v0.2.2.2.2.2.2.2.2.1 v0.2.2.2.2.2.2.2.2.2.1 v0.2.2.2.2.2.2.2.2.2.2.1 v0.2.2.2.2.2.2.2.2.2.2.2.1 v0.2.2.2.2.2.2.2.2.2.2.2.2.1 v0.2.2.2.2.2.2.2.2.2.2.2.2.2.1 v0.2.2.2.2.2.2.2.2.2.2.2.2.2.2.1 v0.2.2.2.2.2.2.2.2.2.2.2.2.2.2.2.1 v0.2.2.2.2.2.2.2.2.2.2.2.2.2.2.2.2) 16 [(0, .ref a0.1), (1, .int i0), (2, .int i1)] _ [.int r6] rfl rfl rfl rfl ?_
    refine v_goto (tgt := 25) S dX9_across_16 (by decide) ?_
    exact v_iret S ⟨r6, (), rfl, rfl, hw⟩ dX9_across_25
set_option maxHeartbeats 4000000 in
set_option maxRecDepth 100000 in
theorem c_X9_walkNow (l : Launch) (G : GG) (a0 : ModA) (v0 : ModV) (i0 : Int32) (i1 : Int32) (Q : Int32 → ModV → Prop) (hw : wp_X9_walkNow v0 i0 i1 Q) : Con l G yX9_walkNow cX9_walkNow 4 (some .int) { frames := 3, cells := 0, slots := 0, locals := 66 } [.ref a0.1, .int i0, .int i1] (wMod G a0 v0.1 v0.2.1 v0.2.2.1 v0.2.2.2.1 v0.2.2.2.2.1 v0.2.2.2.2.2.1 v0.2.2.2.2.2.2.1 v0.2.2.2.2.2.2.2.1 v0.2.2.2.2.2.2.2.2.1 v0.2.2.2.2.2.2.2.2.2.1 v0.2.2.2.2.2.2.2.2.2.2.1 v0.2.2.2.2.2.2.2.2.2.2.2.1 v0.2.2.2.2.2.2.2.2.2.2.2.2.1 v0.2.2.2.2.2.2.2.2.2.2.2.2.2.1 v0.2.2.2.2.2.2.2.2.2.2.2.2.2.2.1 v0.2.2.2.2.2.2.2.2.2.2.2.2.2.2.2.1 v0.2.2.2.2.2.2.2.2.2.2.2.2.2.2.2.2) (PI (fun u : ModV => wMod G a0 u.1 u.2.1 u.2.2.1 u.2.2.2.1 u.2.2.2.2.1 u.2.2.2.2.2.1 u.2.2.2.2.2.2.1 u.2.2.2.2.2.2.2.1 u.2.2.2.2.2.2.2.2.1 u.2.2.2.2.2.2.2.2.2.1 u.2.2.2.2.2.2.2.2.2.2.1 u.2.2.2.2.2.2.2.2.2.2.2.1 u.2.2.2.2.2.2.2.2.2.2.2.2.1 u.2.2.2.2.2.2.2.2.2.2.2.2.2.1 u.2.2.2.2.2.2.2.2.2.2.2.2.2.2.1 u.2.2.2.2.2.2.2.2.2.2.2.2.2.2.2.1 u.2.2.2.2.2.2.2.2.2.2.2.2.2.2.2.2) Q) 0 0 := by
  refine con_of RX9 rfl (by decide) [(0, .ref a0.1), (1, .int i0), (2, .int i1)] rfl (Nat.le_of_ble_eq_true rfl) ?_
  intro p e s m args below meth c S hname
  have B17 : ∀ (x1 : Int32) (x2 : Int32) (w0 : ModV), wp_X9_walkNow_B17 x1 x2 w0 Q → V p l e { frames := 3, cells := 0, slots := 0, locals := 66 } s m args below meth c G (va_A (wMod G a0 v0.1 v0.2.1 v0.2.2.1 v0.2.2.2.1 v0.2.2.2.2.1 v0.2.2.2.2.2.1 v0.2.2.2.2.2.2.1 v0.2.2.2.2.2.2.2.1 v0.2.2.2.2.2.2.2.2.1 v0.2.2.2.2.2.2.2.2.2.1 v0.2.2.2.2.2.2.2.2.2.2.1 v0.2.2.2.2.2.2.2.2.2.2.2.1 v0.2.2.2.2.2.2.2.2.2.2.2.2.1 v0.2.2.2.2.2.2.2.2.2.2.2.2.2.1 v0.2.2.2.2.2.2.2.2.2.2.2.2.2.2.1 v0.2.2.2.2.2.2.2.2.2.2.2.2.2.2.2.1 v0.2.2.2.2.2.2.2.2.2.2.2.2.2.2.2.2) s.heap.size) 4 0 0 (MQ below (EQ G (wMod G a0 v0.1 v0.2.1 v0.2.2.1 v0.2.2.2.1 v0.2.2.2.2.1 v0.2.2.2.2.2.1 v0.2.2.2.2.2.2.1 v0.2.2.2.2.2.2.2.1 v0.2.2.2.2.2.2.2.2.1 v0.2.2.2.2.2.2.2.2.2.1 v0.2.2.2.2.2.2.2.2.2.2.1 v0.2.2.2.2.2.2.2.2.2.2.2.1 v0.2.2.2.2.2.2.2.2.2.2.2.2.1 v0.2.2.2.2.2.2.2.2.2.2.2.2.2.1 v0.2.2.2.2.2.2.2.2.2.2.2.2.2.2.1 v0.2.2.2.2.2.2.2.2.2.2.2.2.2.2.2.1 v0.2.2.2.2.2.2.2.2.2.2.2.2.2.2.2.2) s.heap.size (PI (fun u : ModV => wMod G a0 u.1 u.2.1 u.2.2.1 u.2.2.2.1 u.2.2.2.2.1 u.2.2.2.2.2.1 u.2.2.2.2.2.2.1 u.2.2.2.2.2.2.2.1 u.2.2.2.2.2.2.2.2.1 u.2.2.2.2.2.2.2.2.2.1 u.2.2.2.2.2.2.2.2.2.2.1 u.2.2.2.2.2.2.2.2.2.2.2.1 u.2.2.2.2.2.2.2.2.2.2.2.2.1 u.2.2.2.2.2.2.2.2.2.2.2.2.2.1 u.2.2.2.2.2.2.2.2.2.2.2.2.2.2.1 u.2.2.2.2.2.2.2.2.2.2.2.2.2.2.2.1 u.2.2.2.2.2.2.2.2.2.2.2.2.2.2.2.2) Q)) args s 0 0 (va_A (wMod G a0 v0.1 v0.2.1 v0.2.2.1 v0.2.2.2.1 v0.2.2.2.2.1 v0.2.2.2.2.2.1 v0.2.2.2.2.2.2.1 v0.2.2.2.2.2.2.2.1 v0.2.2.2.2.2.2.2.2.1 v0.2.2.2.2.2.2.2.2.2.1 v0.2.2.2.2.2.2.2.2.2.2.1 v0.2.2.2.2.2.2.2.2.2.2.2.1 v0.2.2.2.2.2.2.2.2.2.2.2.2.1 v0.2.2.2.2.2.2.2.2.2.2.2.2.2.1 v0.2.2.2.2.2.2.2.2.2.2.2.2.2.2.1 v0.2.2.2.2.2.2.2.2.2.2.2.2.2.2.2.1 v0.2.2.2.2.2.2.2.2.2.2.2.2.2.2.2.2) s.heap.size)) (wMod G a0 w0.1 w0.2.1 w0.2.2.1 w0.2.2.2.1 w0.2.2.2.2.1 w0.2.2.2.2.2.1 w0.2.2.2.2.2.2.1 w0.2.2.2.2.2.2.2.1 w0.2.2.2.2.2.2.2.2.1 w0.2.2.2.2.2.2.2.2.2.1 w0.2.2.2.2.2.2.2.2.2.2.1 w0.2.2.2.2.2.2.2.2.2.2.2.1 w0.2.2.2.2.2.2.2.2.2.2.2.2.1 w0.2.2.2.2.2.2.2.2.2.2.2.2.2.1 w0.2.2.2.2.2.2.2.2.2.2.2.2.2.2.1 w0.2.2.2.2.2.2.2.2.2.2.2.2.2.2.2.1 w0.2.2.2.2.2.2.2.2.2.2.2.2.2.2.2.2) 17 [(0, .ref a0.1), (1, .int x1), (2, .int x2)] [] := by
    intro x1 x2 w0 hw
    refine v_aload_n (pc2 := 18) S 0 dX9_walkNow_17 rfl rfl rfl ?_
    refine v_aload_n (pc2 := 19) S 0 dX9_walkNow_18 rfl rfl rfl ?_
    refine v_iload_n (pc2 := 20) S 1 dX9_walkNow_19 rfl rfl rfl ?_
    refine v_iload_n (pc2 := 21) S 2 dX9_walkNow_20 rfl rfl rfl ?_
    refine v_callV (pc2 := 24) (As := [.int x1, .int x2]) (rest := [.ref a0.1]) S (c_X9_isAt l G a0 w0 x1 x2 _ hw) mf_X9_isAt u_927 u_929 u_36 0 9 rfl rfl rfl rfl ⟨rfl, rfl⟩ ⟨Nat.le_of_ble_eq_true rfl, Nat.le_of_ble_eq_true rfl⟩ ⟨Nat.le_of_ble_eq_true rfl, Nat.le_of_ble_eq_true rfl⟩ (Nat.le_of_ble_eq_true rfl) dX9_walkNow_21 (frW _) rfl (pb (fun r4 u5 br4 hw => ?_))
    refine v_to (wMod G a0 w0.1 w0.2.1 w0.2.2.1 w0.2.2.2.1 w0.2.2.2.2.1 w0.2.2.2.2.2.1 w0.2.2.2.2.2.2.1 w0.2.2.2.2.2.2.2.1 w0.2.2.2.2.2.2.2.2.1 w0.2.2.2.2.2.2.2.2.2.1 w0.2.2.2.2.2.2.2.2.2.2.1 w0.2.2.2.2.2.2.2.2.2.2.2.1 w0.2.2.2.2.2.2.2.2.2.2.2.2.1 w0.2.2.2.2.2.2.2.2.2.2.2.2.2.1 w0.2.2.2.2.2.2.2.2.2.2.2.2.2.2.1 w0.2.2.2.2.2.2.2.2.2.2.2.2.2.2.2.1 w0.2.2.2.2.2.2.2.2.2.2.2.2.2.2.2.2) 24 [(0, .ref a0.1), (1, .int x1), (2, .int x2)] _ [.int r4, .ref a0.1] rfl rfl rfl rfl ?_
    refine v_if_eq (pc2 := 27) (tgt := 31) S dX9_walkNow_24 (by decide) rfl (fun c6 => ?_) (fun c6 => ?_)
    · have hw := hw.1 c6
      refine v_iconst (v := 5) (pc2 := 32) S dX9_walkNow_31 (by decide) rfl ?_
      refine v_callV (pc2 := 35) (As := [.int (5 : Int32)]) (rest := []) S (c_X9_refuse l G a0 w0 (5 : Int32) _ hw) mf_X9_refuse u_884 u_886 u_28 0 9 rfl rfl rfl rfl ⟨rfl, rfl⟩ ⟨Nat.le_of_ble_eq_true rfl, Nat.le_of_ble_eq_true rfl⟩ ⟨Nat.le_of_ble_eq_true rfl, Nat.le_of_ble_eq_true rfl⟩ (Nat.le_of_ble_eq_true rfl) dX9_walkNow_32 (frW _) rfl (pi (fun r7 u8 hw => ?_))
      refine v_to (wMod G a0 u8.1 u8.2.1 u8.2.2.1 u8.2.2.2.1 u8.2.2.2.2.1 u8.2.2.2.2.2.1 u8.2.2.2.2.2.2.1 u8.2.2.2.2.2.2.2.1 u8.2.2.2.2.2.2.2.2.1 u8.2.2.2.2.2.2.2.2.2.1 u8.2.2.2.2.2.2.2.2.2.2.1 u8.2.2.2.2.2.2.2.2.2.2.2.1 u8.2.2.2.2.2.2.2.2.2.2.2.2.1 u8.2.2.2.2.2.2.2.2.2.2.2.2.2.1 u8.2.2.2.2.2.2.2.2.2.2.2.2.2.2.1 u8.2.2.2.2.2.2.2.2.2.2.2.2.2.2.2.1 u8.2.2.2.2.2.2.2.2.2.2.2.2.2.2.2.2) 35 [(0, .ref a0.1), (1, .int x1), (2, .int x2)] _ [.int r7] rfl rfl rfl rfl ?_
      exact v_iret S ⟨r7, u8, rfl, rfl, hw⟩ dX9_walkNow_35
    · have hw := hw.2 c6
      refine v_iconst (v := 3) (pc2 := 28) S dX9_walkNow_27 (by decide) rfl ?_
      refine v_goto (tgt := 32) S dX9_walkNow_28 (by decide) ?_
      refine v_callV (pc2 := 35) (As := [.int (3 : Int32)]) (rest := []) S (c_X9_refuse l G a0 w0 (3 : Int32) _ hw) mf_X9_refuse u_884 u_886 u_28 0 9 rfl rfl rfl rfl ⟨rfl, rfl⟩ ⟨Nat.le_of_ble_eq_true rfl, Nat.le_of_ble_eq_true rfl⟩ ⟨Nat.le_of_ble_eq_true rfl, Nat.le_of_ble_eq_true rfl⟩ (Nat.le_of_ble_eq_true rfl) dX9_walkNow_32 (frW _) rfl (pi (fun r9 u10 hw => ?_))
      refine v_to (wMod G a0 u10.1 u10.2.1 u10.2.2.1 u10.2.2.2.1 u10.2.2.2.2.1 u10.2.2.2.2.2.1 u10.2.2.2.2.2.2.1 u10.2.2.2.2.2.2.2.1 u10.2.2.2.2.2.2.2.2.1 u10.2.2.2.2.2.2.2.2.2.1 u10.2.2.2.2.2.2.2.2.2.2.1 u10.2.2.2.2.2.2.2.2.2.2.2.1 u10.2.2.2.2.2.2.2.2.2.2.2.2.1 u10.2.2.2.2.2.2.2.2.2.2.2.2.2.1 u10.2.2.2.2.2.2.2.2.2.2.2.2.2.2.1 u10.2.2.2.2.2.2.2.2.2.2.2.2.2.2.2.1 u10.2.2.2.2.2.2.2.2.2.2.2.2.2.2.2.2) 35 [(0, .ref a0.1), (1, .int x1), (2, .int x2)] _ [.int r9] rfl rfl rfl rfl ?_
      exact v_iret S ⟨r9, u10, rfl, rfl, hw⟩ dX9_walkNow_35
  refine v_aload_n (pc2 := 1) S 0 dX9_walkNow_0 rfl rfl rfl ?_
  refine v_iload_n (pc2 := 2) S 1 dX9_walkNow_1 rfl rfl rfl ?_
  refine v_iload_n (pc2 := 3) S 2 dX9_walkNow_2 rfl rfl rfl ?_
  refine v_callV (pc2 := 6) (As := [.int i0, .int i1]) (rest := []) S (c_X9_isAt l G a0 v0 i0 i1 _ hw) mf_X9_isAt u_927 u_929 u_36 0 9 rfl rfl rfl rfl ⟨rfl, rfl⟩ ⟨Nat.le_of_ble_eq_true rfl, Nat.le_of_ble_eq_true rfl⟩ ⟨Nat.le_of_ble_eq_true rfl, Nat.le_of_ble_eq_true rfl⟩ (Nat.le_of_ble_eq_true rfl) dX9_walkNow_3 (frW _) rfl (pb (fun r1 u2 br1 hw => ?_))
  refine v_to (wMod G a0 v0.1 v0.2.1 v0.2.2.1 v0.2.2.2.1 v0.2.2.2.2.1 v0.2.2.2.2.2.1 v0.2.2.2.2.2.2.1 v0.2.2.2.2.2.2.2.1 v0.2.2.2.2.2.2.2.2.1 v0.2.2.2.2.2.2.2.2.2.1 v0.2.2.2.2.2.2.2.2.2.2.1 v0.2.2.2.2.2.2.2.2.2.2.2.1 v0.2.2.2.2.2.2.2.2.2.2.2.2.1 v0.2.2.2.2.2.2.2.2.2.2.2.2.2.1 v0.2.2.2.2.2.2.2.2.2.2.2.2.2.2.1 v0.2.2.2.2.2.2.2.2.2.2.2.2.2.2.2.1 v0.2.2.2.2.2.2.2.2.2.2.2.2.2.2.2.2) 6 [(0, .ref a0.1), (1, .int i0), (2, .int i1)] _ [.int r1] rfl rfl rfl rfl ?_
  refine v_if_eq (pc2 := 9) (tgt := 17) S dX9_walkNow_6 (by decide) rfl (fun c3 => ?_) (fun c3 => ?_)
  · have hw := hw.1 c3
    exact B17 i0 i1 v0 hw
  · have hw := hw.2 c3
    refine v_aload_n (pc2 := 10) S 0 dX9_walkNow_9 rfl rfl rfl ?_
    refine v_iload_n (pc2 := 11) S 2 dX9_walkNow_10 rfl rfl rfl ?_
    refine v_callV (pc2 := 14) (As := [.int i1]) (rest := []) S (c_X9_isOpen l G a0 v0 i1 _ hw) mf_X9_isOpen u_872 u_874 u_25 0 9 rfl rfl rfl rfl ⟨rfl, rfl⟩ ⟨Nat.le_of_ble_eq_true rfl, Nat.le_of_ble_eq_true rfl⟩ ⟨Nat.le_of_ble_eq_true rfl, Nat.le_of_ble_eq_true rfl⟩ (Nat.le_of_ble_eq_true rfl) dX9_walkNow_11 (frW _) rfl (pb (fun r11 u12 br11 hw => ?_))
    refine v_to (wMod G a0 v0.1 v0.2.1 v0.2.2.1 v0.2.2.2.1 v0.2.2.2.2.1 v0.2.2.2.2.2.1 v0.2.2.2.2.2.2.1 v0.2.2.2.2.2.2.2.1 v0.2.2.2.2.2.2.2.2.1 v0.2.2.2.2.2.2.2.2.2.1 v0.2.2.2.2.2.2.2.2.2.2.1 v0.2.2.2.2.2.2.2.2.2.2.2.1 v0.2.2.2.2.2.2.2.2.2.2.2.2.1 v0.2.2.2.2.2.2.2.2.2.2.2.2.2.1 v0.2.2.2.2.2.2.2.2.2.2.2.2.2.2.1 v0.2.2.2.2.2.2.2.2.2.2.2.2.2.2.2.1 v0.2.2.2.2.2.2.2.2.2.2.2.2.2.2.2.2) 14 [(0, .ref a0.1), (1, .int i0), (2, .int i1)] _ [.int r11] rfl rfl rfl rfl ?_
    refine v_if_ne (pc2 := 17) (tgt := 36) S dX9_walkNow_14 (by decide) rfl (fun c13 => ?_) (fun c13 => ?_)
    · have hw := hw.1 c13
      refine v_aload_n (pc2 := 37) S 0 dX9_walkNow_36 rfl rfl rfl ?_
      refine v_iload_n (pc2 := 38) S 2 dX9_walkNow_37 rfl rfl rfl ?_
      refine v_aload_n (pc2 := 39) S 0 dX9_walkNow_38 rfl rfl rfl ?_
      refine v_iload_n (pc2 := 40) S 1 dX9_walkNow_39 rfl rfl rfl ?_
      refine v_iconst (v := 0) (pc2 := 41) S dX9_walkNow_40 (by decide) rfl ?_
      refine v_callV (pc2 := 44) (As := [.int i0, .int (0 : Int32)]) (rest := [.int i1, .ref a0.1]) S (c_X9_ofGuest l G a0 v0 i0 (0 : Int32) _ hw) mf_X9_ofGuest u_931 u_933 u_37 0 9 rfl rfl rfl rfl ⟨rfl, rfl⟩ ⟨Nat.le_of_ble_eq_true rfl, Nat.le_of_ble_eq_true rfl⟩ ⟨Nat.le_of_ble_eq_true rfl, Nat.le_of_ble_eq_true rfl⟩ (Nat.le_of_ble_eq_true rfl) dX9_walkNow_41 (frW _) rfl (pi (fun r14 u15 hw => ?_))
      refine v_to (wMod G a0 v0.1 v0.2.1 v0.2.2.1 v0.2.2.2.1 v0.2.2.2.2.1 v0.2.2.2.2.2.1 v0.2.2.2.2.2.2.1 v0.2.2.2.2.2.2.2.1 v0.2.2.2.2.2.2.2.2.1 v0.2.2.2.2.2.2.2.2.2.1 v0.2.2.2.2.2.2.2.2.2.2.1 v0.2.2.2.2.2.2.2.2.2.2.2.1 v0.2.2.2.2.2.2.2.2.2.2.2.2.1 v0.2.2.2.2.2.2.2.2.2.2.2.2.2.1 v0.2.2.2.2.2.2.2.2.2.2.2.2.2.2.1 v0.2.2.2.2.2.2.2.2.2.2.2.2.2.2.2.1 v0.2.2.2.2.2.2.2.2.2.2.2.2.2.2.2.2) 44 [(0, .ref a0.1), (1, .int i0), (2, .int i1)] _ [.int r14, .int i1, .ref a0.1] rfl rfl rfl rfl ?_
      refine v_callV (pc2 := 47) (As := [.int i1, .int r14]) (rest := []) S (c_X9_across l G a0 v0 i1 r14 _ hw) mf_X9_across u_955 u_957 u_41 0 9 rfl rfl rfl rfl ⟨rfl, rfl⟩ ⟨Nat.le_of_ble_eq_true rfl, Nat.le_of_ble_eq_true rfl⟩ ⟨Nat.le_of_ble_eq_true rfl, Nat.le_of_ble_eq_true rfl⟩ (Nat.le_of_ble_eq_true rfl) dX9_walkNow_44 (frW _) rfl (pi (fun r16 u17 hw => ?_))
      refine v_to (wMod G a0 v0.1 v0.2.1 v0.2.2.1 v0.2.2.2.1 v0.2.2.2.2.1 v0.2.2.2.2.2.1 v0.2.2.2.2.2.2.1 v0.2.2.2.2.2.2.2.1 v0.2.2.2.2.2.2.2.2.1 v0.2.2.2.2.2.2.2.2.2.1 v0.2.2.2.2.2.2.2.2.2.2.1 v0.2.2.2.2.2.2.2.2.2.2.2.1 v0.2.2.2.2.2.2.2.2.2.2.2.2.1 v0.2.2.2.2.2.2.2.2.2.2.2.2.2.1 v0.2.2.2.2.2.2.2.2.2.2.2.2.2.2.1 v0.2.2.2.2.2.2.2.2.2.2.2.2.2.2.2.1 v0.2.2.2.2.2.2.2.2.2.2.2.2.2.2.2.2) 47 [(0, .ref a0.1), (1, .int i0), (2, .int i1)] _ [.int r16] rfl rfl rfl rfl ?_
      refine v_istore_n (lv2 := [(0, .ref a0.1), (1, .int i0), (2, .int i1), (3, .int r16)]) (pc2 := 48) S dX9_walkNow_47 rfl (by decide) [1, 2, 3, 0] rfl rfl ?_
      refine v_aload_n (pc2 := 49) S 0 dX9_walkNow_48 rfl rfl rfl ?_
      refine v_get (v := .ref a0.2.1) (pc2 := 52) S gf_X9_7 0 rfl rfl dX9_walkNow_49 rfl ?_
      refine v_bipush (v := 76) (pc2 := 54) S dX9_walkNow_52 (by decide) rfl ?_
      refine v_iconst (v := 3) (pc2 := 55) S dX9_walkNow_54 (by decide) rfl ?_
      refine v_iload_n (pc2 := 56) S 1 dX9_walkNow_55 rfl rfl rfl ?_
      refine v_imul (pc2 := 57) S dX9_walkNow_56 rfl ?_
      refine v_iadd (pc2 := 58) S dX9_walkNow_57 rfl ?_
      refine v_iconst (v := 0) (pc2 := 59) S dX9_walkNow_58 (by decide) rfl ?_
      refine v_iadd (pc2 := 60) S dX9_walkNow_59 rfl ?_
      refine v_iload_n (pc2 := 61) S 3 dX9_walkNow_60 rfl rfl rfl ?_
      obtain ⟨h18, hw⟩ := hw
      obtain ⟨g19, eg19⟩ : ∃ y : Nat → Int32, y = upd v0.1 (((76 : Int32) + ((3 : Int32) * i0)) + (0 : Int32)).toNatClampNeg r16 := ⟨_, rfl⟩
      have hw := hw g19 eg19
      refine v_iast (ws2 := wMod G a0 g19 v0.2.1 v0.2.2.1 v0.2.2.2.1 v0.2.2.2.2.1 v0.2.2.2.2.2.1 v0.2.2.2.2.2.2.1 v0.2.2.2.2.2.2.2.1 v0.2.2.2.2.2.2.2.2.1 v0.2.2.2.2.2.2.2.2.2.1 v0.2.2.2.2.2.2.2.2.2.2.1 v0.2.2.2.2.2.2.2.2.2.2.2.1 v0.2.2.2.2.2.2.2.2.2.2.2.2.1 v0.2.2.2.2.2.2.2.2.2.2.2.2.2.1 v0.2.2.2.2.2.2.2.2.2.2.2.2.2.2.1 v0.2.2.2.2.2.2.2.2.2.2.2.2.2.2.2.1 v0.2.2.2.2.2.2.2.2.2.2.2.2.2.2.2.2) (pc2 := 62) S 1 rfl h18 (by rw [eg19] <;> rfl) dX9_walkNow_61 rfl ?_
      refine v_aload_n (pc2 := 63) S 0 dX9_walkNow_62 rfl rfl rfl ?_
      refine v_get (v := .ref a0.2.1) (pc2 := 66) S gf_X9_7 0 rfl rfl dX9_walkNow_63 rfl ?_
      refine v_bipush (v := 76) (pc2 := 68) S dX9_walkNow_66 (by decide) rfl ?_
      refine v_iconst (v := 3) (pc2 := 69) S dX9_walkNow_68 (by decide) rfl ?_
      refine v_iload_n (pc2 := 70) S 1 dX9_walkNow_69 rfl rfl rfl ?_
      refine v_imul (pc2 := 71) S dX9_walkNow_70 rfl ?_
      refine v_iadd (pc2 := 72) S dX9_walkNow_71 rfl ?_
      refine v_iconst (v := 2) (pc2 := 73) S dX9_walkNow_72 (by decide) rfl ?_
      refine v_iadd (pc2 := 74) S dX9_walkNow_73 rfl ?_
      refine v_dup2 (pc2 := 75) S dX9_walkNow_74 rfl rfl rfl ?_
      obtain ⟨h20, hw⟩ := hw
      refine v_iald (pc2 := 76) S 1 rfl h20 dX9_walkNow_75 rfl ?_
      refine v_iconst (v := 1) (pc2 := 77) S dX9_walkNow_76 (by decide) rfl ?_
      refine v_iadd (pc2 := 78) S dX9_walkNow_77 rfl ?_
      obtain ⟨h21, hw⟩ := hw
      obtain ⟨g22, eg22⟩ : ∃ y : Nat → Int32, y = upd g19 (((76 : Int32) + ((3 : Int32) * i0)) + (2 : Int32)).toNatClampNeg ((g19 (((76 : Int32) + ((3 : Int32) * i0)) + (2 : Int32)).toNatClampNeg) + (1 : Int32)) := ⟨_, rfl⟩
      have hw := hw g22 eg22
      refine v_iast (ws2 := wMod G a0 g22 v0.2.1 v0.2.2.1 v0.2.2.2.1 v0.2.2.2.2.1 v0.2.2.2.2.2.1 v0.2.2.2.2.2.2.1 v0.2.2.2.2.2.2.2.1 v0.2.2.2.2.2.2.2.2.1 v0.2.2.2.2.2.2.2.2.2.1 v0.2.2.2.2.2.2.2.2.2.2.1 v0.2.2.2.2.2.2.2.2.2.2.2.1 v0.2.2.2.2.2.2.2.2.2.2.2.2.1 v0.2.2.2.2.2.2.2.2.2.2.2.2.2.1 v0.2.2.2.2.2.2.2.2.2.2.2.2.2.2.1 v0.2.2.2.2.2.2.2.2.2.2.2.2.2.2.2.1 v0.2.2.2.2.2.2.2.2.2.2.2.2.2.2.2.2) (pc2 := 79) S 1 rfl h21 (by rw [eg22] <;> rfl) dX9_walkNow_78 rfl ?_
      refine v_bipush (v := 10) (pc2 := 81) S dX9_walkNow_79 (by decide) rfl ?_
      refine v_iload_n (pc2 := 82) S 3 dX9_walkNow_81 rfl rfl rfl ?_
      refine v_iadd (pc2 := 83) S dX9_walkNow_82 rfl ?_
      exact v_iret S ⟨(10 : Int32) + r16, (g22, v0.2.1, v0.2.2.1, v0.2.2.2.1, v0.2.2.2.2.1, v0.2.2.2.2.2.1, v0.2.2.2.2.2.2.1, v0.2.2.2.2.2.2.2.1, v0.2.2.2.2.2.2.2.2.1, v0.2.2.2.2.2.2.2.2.2.1, v0.2.2.2.2.2.2.2.2.2.2.1, v0.2.2.2.2.2.2.2.2.2.2.2.1, v0.2.2.2.2.2.2.2.2.2.2.2.2.1, v0.2.2.2.2.2.2.2.2.2.2.2.2.2.1, v0.2.2.2.2.2.2.2.2.2.2.2.2.2.2.1, v0.2.2.2.2.2.2.2.2.2.2.2.2.2.2.2.1, v0.2.2.2.2.2.2.2.2.2.2.2.2.2.2.2.2), rfl, rfl, hw⟩ dX9_walkNow_83
    · have hw := hw.2 c13
      exact B17 i0 i1 v0 hw
set_option maxHeartbeats 4000000 in
set_option maxRecDepth 100000 in
theorem c_X9_open (l : Launch) (G : GG) (a0 : ModA) (v0 : ModV) (i0 : Int32) (Q : Int32 → ModV → Prop) (hw : wp_X9_open v0 i0 Q) : Con l G yX9_open cX9_open 2 (some .int) { frames := 5, cells := 0, slots := 0, locals := 113 } [.ref a0.1, .int i0] (wMod G a0 v0.1 v0.2.1 v0.2.2.1 v0.2.2.2.1 v0.2.2.2.2.1 v0.2.2.2.2.2.1 v0.2.2.2.2.2.2.1 v0.2.2.2.2.2.2.2.1 v0.2.2.2.2.2.2.2.2.1 v0.2.2.2.2.2.2.2.2.2.1 v0.2.2.2.2.2.2.2.2.2.2.1 v0.2.2.2.2.2.2.2.2.2.2.2.1 v0.2.2.2.2.2.2.2.2.2.2.2.2.1 v0.2.2.2.2.2.2.2.2.2.2.2.2.2.1 v0.2.2.2.2.2.2.2.2.2.2.2.2.2.2.1 v0.2.2.2.2.2.2.2.2.2.2.2.2.2.2.2.1 v0.2.2.2.2.2.2.2.2.2.2.2.2.2.2.2.2) (PI (fun u : ModV => wMod G a0 u.1 u.2.1 u.2.2.1 u.2.2.2.1 u.2.2.2.2.1 u.2.2.2.2.2.1 u.2.2.2.2.2.2.1 u.2.2.2.2.2.2.2.1 u.2.2.2.2.2.2.2.2.1 u.2.2.2.2.2.2.2.2.2.1 u.2.2.2.2.2.2.2.2.2.2.1 u.2.2.2.2.2.2.2.2.2.2.2.1 u.2.2.2.2.2.2.2.2.2.2.2.2.1 u.2.2.2.2.2.2.2.2.2.2.2.2.2.1 u.2.2.2.2.2.2.2.2.2.2.2.2.2.2.1 u.2.2.2.2.2.2.2.2.2.2.2.2.2.2.2.1 u.2.2.2.2.2.2.2.2.2.2.2.2.2.2.2.2) Q) 0 0 := by
  refine con_of RX9 rfl (by decide) [(0, .ref a0.1), (1, .int i0)] rfl (Nat.le_of_ble_eq_true rfl) ?_
  intro p e s m args below meth c S hname
  refine v_iload_n (pc2 := 1) S 1 dX9_open_0 rfl rfl rfl ?_
  refine v_callS (pc2 := 4) (As := [.int i0]) (rest := []) S (c_X9_isDoor l G i0 _ hw) mf_X9_isDoor u_858 u_859 rfl rfl ⟨rfl, rfl⟩ ⟨Nat.le_of_ble_eq_true rfl, Nat.le_of_ble_eq_true rfl⟩ ⟨Nat.le_of_ble_eq_true rfl, Nat.le_of_ble_eq_true rfl⟩ (Nat.le_of_ble_eq_true rfl) dX9_open_1 (frM [] [] _) rfl (pb (fun r1 u2 br1 hw => ?_))
  refine v_to (wMod G a0 v0.1 v0.2.1 v0.2.2.1 v0.2.2.2.1 v0.2.2.2.2.1 v0.2.2.2.2.2.1 v0.2.2.2.2.2.2.1 v0.2.2.2.2.2.2.2.1 v0.2.2.2.2.2.2.2.2.1 v0.2.2.2.2.2.2.2.2.2.1 v0.2.2.2.2.2.2.2.2.2.2.1 v0.2.2.2.2.2.2.2.2.2.2.2.1 v0.2.2.2.2.2.2.2.2.2.2.2.2.1 v0.2.2.2.2.2.2.2.2.2.2.2.2.2.1 v0.2.2.2.2.2.2.2.2.2.2.2.2.2.2.1 v0.2.2.2.2.2.2.2.2.2.2.2.2.2.2.2.1 v0.2.2.2.2.2.2.2.2.2.2.2.2.2.2.2.2) 4 [(0, .ref a0.1), (1, .int i0)] _ [.int r1] rfl rfl rfl rfl ?_
  refine v_if_ne (pc2 := 7) (tgt := 9) S dX9_open_4 (by decide) rfl (fun c3 => ?_) (fun c3 => ?_)
  · have hw := hw.1 c3
    refine v_aload_n (pc2 := 10) S 0 dX9_open_9 rfl rfl rfl ?_
    refine v_callV (pc2 := 13) (As := []) (rest := []) S (c_X9_record l G a0 v0 _ hw) mf_X9_record u_850 u_852 u_22 0 9 rfl rfl rfl rfl ⟨rfl, rfl⟩ ⟨Nat.le_of_ble_eq_true rfl, Nat.le_of_ble_eq_true rfl⟩ ⟨Nat.le_of_ble_eq_true rfl, Nat.le_of_ble_eq_true rfl⟩ (Nat.le_of_ble_eq_true rfl) dX9_open_10 (frW _) rfl (pv (fun u5 hw => ?_))
    refine v_to (wMod G a0 u5.1 u5.2.1 u5.2.2.1 u5.2.2.2.1 u5.2.2.2.2.1 u5.2.2.2.2.2.1 u5.2.2.2.2.2.2.1 u5.2.2.2.2.2.2.2.1 u5.2.2.2.2.2.2.2.2.1 u5.2.2.2.2.2.2.2.2.2.1 u5.2.2.2.2.2.2.2.2.2.2.1 u5.2.2.2.2.2.2.2.2.2.2.2.1 u5.2.2.2.2.2.2.2.2.2.2.2.2.1 u5.2.2.2.2.2.2.2.2.2.2.2.2.2.1 u5.2.2.2.2.2.2.2.2.2.2.2.2.2.2.1 u5.2.2.2.2.2.2.2.2.2.2.2.2.2.2.2.1 u5.2.2.2.2.2.2.2.2.2.2.2.2.2.2.2.2) 13 [(0, .ref a0.1), (1, .int i0)] _ [] rfl rfl rfl rfl ?_
    refine v_aload_n (pc2 := 14) S 0 dX9_open_13 rfl rfl rfl ?_
    refine v_iload_n (pc2 := 15) S 1 dX9_open_14 rfl rfl rfl ?_
    refine v_callV (pc2 := 18) (As := [.int i0]) (rest := []) S (c_X9_openNow l G a0 u5 i0 _ hw) mf_X9_openNow u_864 u_866 u_23 0 9 rfl rfl rfl rfl ⟨rfl, rfl⟩ ⟨Nat.le_of_ble_eq_true rfl, Nat.le_of_ble_eq_true rfl⟩ ⟨Nat.le_of_ble_eq_true rfl, Nat.le_of_ble_eq_true rfl⟩ (Nat.le_of_ble_eq_true rfl) dX9_open_15 (frW _) rfl (pi (fun r6 u7 hw => ?_))
    refine v_to (wMod G a0 u7.1 u7.2.1 u7.2.2.1 u7.2.2.2.1 u7.2.2.2.2.1 u7.2.2.2.2.2.1 u7.2.2.2.2.2.2.1 u7.2.2.2.2.2.2.2.1 u7.2.2.2.2.2.2.2.2.1 u7.2.2.2.2.2.2.2.2.2.1 u7.2.2.2.2.2.2.2.2.2.2.1 u7.2.2.2.2.2.2.2.2.2.2.2.1 u7.2.2.2.2.2.2.2.2.2.2.2.2.1 u7.2.2.2.2.2.2.2.2.2.2.2.2.2.1 u7.2.2.2.2.2.2.2.2.2.2.2.2.2.2.1 u7.2.2.2.2.2.2.2.2.2.2.2.2.2.2.2.1 u7.2.2.2.2.2.2.2.2.2.2.2.2.2.2.2.2) 18 [(0, .ref a0.1), (1, .int i0)] _ [.int r6] rfl rfl rfl rfl ?_
    exact v_iret S ⟨r6, u7, rfl, rfl, hw⟩ dX9_open_18
  · have hw := hw.2 c3
    refine v_iconst (v := -1) (pc2 := 8) S dX9_open_7 (by decide) rfl ?_
    exact v_iret S ⟨(-1 : Int32), v0, rfl, rfl, hw⟩ dX9_open_8
set_option maxHeartbeats 4000000 in
set_option maxRecDepth 100000 in
theorem c_X9_shut (l : Launch) (G : GG) (a0 : ModA) (v0 : ModV) (i0 : Int32) (Q : Int32 → ModV → Prop) (hw : wp_X9_shut v0 i0 Q) : Con l G yX9_shut cX9_shut 2 (some .int) { frames := 3, cells := 0, slots := 0, locals := 66 } [.ref a0.1, .int i0] (wMod G a0 v0.1 v0.2.1 v0.2.2.1 v0.2.2.2.1 v0.2.2.2.2.1 v0.2.2.2.2.2.1 v0.2.2.2.2.2.2.1 v0.2.2.2.2.2.2.2.1 v0.2.2.2.2.2.2.2.2.1 v0.2.2.2.2.2.2.2.2.2.1 v0.2.2.2.2.2.2.2.2.2.2.1 v0.2.2.2.2.2.2.2.2.2.2.2.1 v0.2.2.2.2.2.2.2.2.2.2.2.2.1 v0.2.2.2.2.2.2.2.2.2.2.2.2.2.1 v0.2.2.2.2.2.2.2.2.2.2.2.2.2.2.1 v0.2.2.2.2.2.2.2.2.2.2.2.2.2.2.2.1 v0.2.2.2.2.2.2.2.2.2.2.2.2.2.2.2.2) (PI (fun u : ModV => wMod G a0 u.1 u.2.1 u.2.2.1 u.2.2.2.1 u.2.2.2.2.1 u.2.2.2.2.2.1 u.2.2.2.2.2.2.1 u.2.2.2.2.2.2.2.1 u.2.2.2.2.2.2.2.2.1 u.2.2.2.2.2.2.2.2.2.1 u.2.2.2.2.2.2.2.2.2.2.1 u.2.2.2.2.2.2.2.2.2.2.2.1 u.2.2.2.2.2.2.2.2.2.2.2.2.1 u.2.2.2.2.2.2.2.2.2.2.2.2.2.1 u.2.2.2.2.2.2.2.2.2.2.2.2.2.2.1 u.2.2.2.2.2.2.2.2.2.2.2.2.2.2.2.1 u.2.2.2.2.2.2.2.2.2.2.2.2.2.2.2.2) Q) 0 0 := by
  refine con_of RX9 rfl (by decide) [(0, .ref a0.1), (1, .int i0)] rfl (Nat.le_of_ble_eq_true rfl) ?_
  intro p e s m args below meth c S hname
  refine v_iload_n (pc2 := 1) S 1 dX9_shut_0 rfl rfl rfl ?_
  refine v_callS (pc2 := 4) (As := [.int i0]) (rest := []) S (c_X9_isDoor l G i0 _ hw) mf_X9_isDoor u_858 u_859 rfl rfl ⟨rfl, rfl⟩ ⟨Nat.le_of_ble_eq_true rfl, Nat.le_of_ble_eq_true rfl⟩ ⟨Nat.le_of_ble_eq_true rfl, Nat.le_of_ble_eq_true rfl⟩ (Nat.le_of_ble_eq_true rfl) dX9_shut_1 (frM [] [] _) rfl (pb (fun r1 u2 br1 hw => ?_))
  refine v_to (wMod G a0 v0.1 v0.2.1 v0.2.2.1 v0.2.2.2.1 v0.2.2.2.2.1 v0.2.2.2.2.2.1 v0.2.2.2.2.2.2.1 v0.2.2.2.2.2.2.2.1 v0.2.2.2.2.2.2.2.2.1 v0.2.2.2.2.2.2.2.2.2.1 v0.2.2.2.2.2.2.2.2.2.2.1 v0.2.2.2.2.2.2.2.2.2.2.2.1 v0.2.2.2.2.2.2.2.2.2.2.2.2.1 v0.2.2.2.2.2.2.2.2.2.2.2.2.2.1 v0.2.2.2.2.2.2.2.2.2.2.2.2.2.2.1 v0.2.2.2.2.2.2.2.2.2.2.2.2.2.2.2.1 v0.2.2.2.2.2.2.2.2.2.2.2.2.2.2.2.2) 4 [(0, .ref a0.1), (1, .int i0)] _ [.int r1] rfl rfl rfl rfl ?_
  refine v_if_ne (pc2 := 7) (tgt := 9) S dX9_shut_4 (by decide) rfl (fun c3 => ?_) (fun c3 => ?_)
  · have hw := hw.1 c3
    refine v_aload_n (pc2 := 10) S 0 dX9_shut_9 rfl rfl rfl ?_
    refine v_callV (pc2 := 13) (As := []) (rest := []) S (c_X9_record l G a0 v0 _ hw) mf_X9_record u_850 u_852 u_22 0 9 rfl rfl rfl rfl ⟨rfl, rfl⟩ ⟨Nat.le_of_ble_eq_true rfl, Nat.le_of_ble_eq_true rfl⟩ ⟨Nat.le_of_ble_eq_true rfl, Nat.le_of_ble_eq_true rfl⟩ (Nat.le_of_ble_eq_true rfl) dX9_shut_10 (frW _) rfl (pv (fun u5 hw => ?_))
    refine v_to (wMod G a0 u5.1 u5.2.1 u5.2.2.1 u5.2.2.2.1 u5.2.2.2.2.1 u5.2.2.2.2.2.1 u5.2.2.2.2.2.2.1 u5.2.2.2.2.2.2.2.1 u5.2.2.2.2.2.2.2.2.1 u5.2.2.2.2.2.2.2.2.2.1 u5.2.2.2.2.2.2.2.2.2.2.1 u5.2.2.2.2.2.2.2.2.2.2.2.1 u5.2.2.2.2.2.2.2.2.2.2.2.2.1 u5.2.2.2.2.2.2.2.2.2.2.2.2.2.1 u5.2.2.2.2.2.2.2.2.2.2.2.2.2.2.1 u5.2.2.2.2.2.2.2.2.2.2.2.2.2.2.2.1 u5.2.2.2.2.2.2.2.2.2.2.2.2.2.2.2.2) 13 [(0, .ref a0.1), (1, .int i0)] _ [] rfl rfl rfl rfl ?_
    refine v_aload_n (pc2 := 14) S 0 dX9_shut_13 rfl rfl rfl ?_
    refine v_iload_n (pc2 := 15) S 1 dX9_shut_14 rfl rfl rfl ?_
    refine v_callV (pc2 := 18) (As := [.int i0]) (rest := []) S (c_X9_shutNow l G a0 u5 i0 _ hw) mf_X9_shutNow u_912 u_914 u_34 0 9 rfl rfl rfl rfl ⟨rfl, rfl⟩ ⟨Nat.le_of_ble_eq_true rfl, Nat.le_of_ble_eq_true rfl⟩ ⟨Nat.le_of_ble_eq_true rfl, Nat.le_of_ble_eq_true rfl⟩ (Nat.le_of_ble_eq_true rfl) dX9_shut_15 (frW _) rfl (pi (fun r6 u7 hw => ?_))
    refine v_to (wMod G a0 u7.1 u7.2.1 u7.2.2.1 u7.2.2.2.1 u7.2.2.2.2.1 u7.2.2.2.2.2.1 u7.2.2.2.2.2.2.1 u7.2.2.2.2.2.2.2.1 u7.2.2.2.2.2.2.2.2.1 u7.2.2.2.2.2.2.2.2.2.1 u7.2.2.2.2.2.2.2.2.2.2.1 u7.2.2.2.2.2.2.2.2.2.2.2.1 u7.2.2.2.2.2.2.2.2.2.2.2.2.1 u7.2.2.2.2.2.2.2.2.2.2.2.2.2.1 u7.2.2.2.2.2.2.2.2.2.2.2.2.2.2.1 u7.2.2.2.2.2.2.2.2.2.2.2.2.2.2.2.1 u7.2.2.2.2.2.2.2.2.2.2.2.2.2.2.2.2) 18 [(0, .ref a0.1), (1, .int i0)] _ [.int r6] rfl rfl rfl rfl ?_
    exact v_iret S ⟨r6, u7, rfl, rfl, hw⟩ dX9_shut_18
  · have hw := hw.2 c3
    refine v_iconst (v := -1) (pc2 := 8) S dX9_shut_7 (by decide) rfl ?_
    exact v_iret S ⟨(-1 : Int32), v0, rfl, rfl, hw⟩ dX9_shut_8
set_option maxHeartbeats 4000000 in
set_option maxRecDepth 100000 in
theorem c_X9_guestOpens (l : Launch) (G : GG) (a0 : ModA) (v0 : ModV) (i0 : Int32) (i1 : Int32) (Q : Int32 → ModV → Prop) (hw : wp_X9_guestOpens v0 i0 i1 Q) : Con l G yX9_guestOpens cX9_guestOpens 3 (some .int) { frames := 6, cells := 0, slots := 0, locals := 135 } [.ref a0.1, .int i0, .int i1] (wMod G a0 v0.1 v0.2.1 v0.2.2.1 v0.2.2.2.1 v0.2.2.2.2.1 v0.2.2.2.2.2.1 v0.2.2.2.2.2.2.1 v0.2.2.2.2.2.2.2.1 v0.2.2.2.2.2.2.2.2.1 v0.2.2.2.2.2.2.2.2.2.1 v0.2.2.2.2.2.2.2.2.2.2.1 v0.2.2.2.2.2.2.2.2.2.2.2.1 v0.2.2.2.2.2.2.2.2.2.2.2.2.1 v0.2.2.2.2.2.2.2.2.2.2.2.2.2.1 v0.2.2.2.2.2.2.2.2.2.2.2.2.2.2.1 v0.2.2.2.2.2.2.2.2.2.2.2.2.2.2.2.1 v0.2.2.2.2.2.2.2.2.2.2.2.2.2.2.2.2) (PI (fun u : ModV => wMod G a0 u.1 u.2.1 u.2.2.1 u.2.2.2.1 u.2.2.2.2.1 u.2.2.2.2.2.1 u.2.2.2.2.2.2.1 u.2.2.2.2.2.2.2.1 u.2.2.2.2.2.2.2.2.1 u.2.2.2.2.2.2.2.2.2.1 u.2.2.2.2.2.2.2.2.2.2.1 u.2.2.2.2.2.2.2.2.2.2.2.1 u.2.2.2.2.2.2.2.2.2.2.2.2.1 u.2.2.2.2.2.2.2.2.2.2.2.2.2.1 u.2.2.2.2.2.2.2.2.2.2.2.2.2.2.1 u.2.2.2.2.2.2.2.2.2.2.2.2.2.2.2.1 u.2.2.2.2.2.2.2.2.2.2.2.2.2.2.2.2) Q) 0 0 := by
  refine con_of RX9 rfl (by decide) [(0, .ref a0.1), (1, .int i0), (2, .int i1)] rfl (Nat.le_of_ble_eq_true rfl) ?_
  intro p e s m args below meth c S hname
  refine v_iload_n (pc2 := 1) S 1 dX9_guestOpens_0 rfl rfl rfl ?_
  refine v_callS (pc2 := 4) (As := [.int i0]) (rest := []) S (c_X9_isGuest l G i0 _ hw) mf_X9_isGuest u_920 u_921 rfl rfl ⟨rfl, rfl⟩ ⟨Nat.le_of_ble_eq_true rfl, Nat.le_of_ble_eq_true rfl⟩ ⟨Nat.le_of_ble_eq_true rfl, Nat.le_of_ble_eq_true rfl⟩ (Nat.le_of_ble_eq_true rfl) dX9_guestOpens_1 (frM [] [] _) rfl (pb (fun r1 u2 br1 hw => ?_))
  refine v_to (wMod G a0 v0.1 v0.2.1 v0.2.2.1 v0.2.2.2.1 v0.2.2.2.2.1 v0.2.2.2.2.2.1 v0.2.2.2.2.2.2.1 v0.2.2.2.2.2.2.2.1 v0.2.2.2.2.2.2.2.2.1 v0.2.2.2.2.2.2.2.2.2.1 v0.2.2.2.2.2.2.2.2.2.2.1 v0.2.2.2.2.2.2.2.2.2.2.2.1 v0.2.2.2.2.2.2.2.2.2.2.2.2.1 v0.2.2.2.2.2.2.2.2.2.2.2.2.2.1 v0.2.2.2.2.2.2.2.2.2.2.2.2.2.2.1 v0.2.2.2.2.2.2.2.2.2.2.2.2.2.2.2.1 v0.2.2.2.2.2.2.2.2.2.2.2.2.2.2.2.2) 4 [(0, .ref a0.1), (1, .int i0), (2, .int i1)] _ [.int r1] rfl rfl rfl rfl ?_
  refine v_if_eq (pc2 := 7) (tgt := 14) S dX9_guestOpens_4 (by decide) rfl (fun c3 => ?_) (fun c3 => ?_)
  · have hw := hw.1 c3
    refine v_iconst (v := -1) (pc2 := 15) S dX9_guestOpens_14 (by decide) rfl ?_
    exact v_iret S ⟨(-1 : Int32), v0, rfl, rfl, hw⟩ dX9_guestOpens_15
  · have hw := hw.2 c3
    refine v_iload_n (pc2 := 8) S 2 dX9_guestOpens_7 rfl rfl rfl ?_
    refine v_callS (pc2 := 11) (As := [.int i1]) (rest := []) S (c_X9_isDoor l G i1 _ hw) mf_X9_isDoor u_858 u_859 rfl rfl ⟨rfl, rfl⟩ ⟨Nat.le_of_ble_eq_true rfl, Nat.le_of_ble_eq_true rfl⟩ ⟨Nat.le_of_ble_eq_true rfl, Nat.le_of_ble_eq_true rfl⟩ (Nat.le_of_ble_eq_true rfl) dX9_guestOpens_8 (frM [] [] _) rfl (pb (fun r4 u5 br4 hw => ?_))
    refine v_to (wMod G a0 v0.1 v0.2.1 v0.2.2.1 v0.2.2.2.1 v0.2.2.2.2.1 v0.2.2.2.2.2.1 v0.2.2.2.2.2.2.1 v0.2.2.2.2.2.2.2.1 v0.2.2.2.2.2.2.2.2.1 v0.2.2.2.2.2.2.2.2.2.1 v0.2.2.2.2.2.2.2.2.2.2.1 v0.2.2.2.2.2.2.2.2.2.2.2.1 v0.2.2.2.2.2.2.2.2.2.2.2.2.1 v0.2.2.2.2.2.2.2.2.2.2.2.2.2.1 v0.2.2.2.2.2.2.2.2.2.2.2.2.2.2.1 v0.2.2.2.2.2.2.2.2.2.2.2.2.2.2.2.1 v0.2.2.2.2.2.2.2.2.2.2.2.2.2.2.2.2) 11 [(0, .ref a0.1), (1, .int i0), (2, .int i1)] _ [.int r4] rfl rfl rfl rfl ?_
    refine v_if_ne (pc2 := 14) (tgt := 16) S dX9_guestOpens_11 (by decide) rfl (fun c6 => ?_) (fun c6 => ?_)
    · have hw := hw.1 c6
      refine v_aload_n (pc2 := 17) S 0 dX9_guestOpens_16 rfl rfl rfl ?_
      refine v_callV (pc2 := 20) (As := []) (rest := []) S (c_X9_record l G a0 v0 _ hw) mf_X9_record u_850 u_852 u_22 0 9 rfl rfl rfl rfl ⟨rfl, rfl⟩ ⟨Nat.le_of_ble_eq_true rfl, Nat.le_of_ble_eq_true rfl⟩ ⟨Nat.le_of_ble_eq_true rfl, Nat.le_of_ble_eq_true rfl⟩ (Nat.le_of_ble_eq_true rfl) dX9_guestOpens_17 (frW _) rfl (pv (fun u8 hw => ?_))
      refine v_to (wMod G a0 u8.1 u8.2.1 u8.2.2.1 u8.2.2.2.1 u8.2.2.2.2.1 u8.2.2.2.2.2.1 u8.2.2.2.2.2.2.1 u8.2.2.2.2.2.2.2.1 u8.2.2.2.2.2.2.2.2.1 u8.2.2.2.2.2.2.2.2.2.1 u8.2.2.2.2.2.2.2.2.2.2.1 u8.2.2.2.2.2.2.2.2.2.2.2.1 u8.2.2.2.2.2.2.2.2.2.2.2.2.1 u8.2.2.2.2.2.2.2.2.2.2.2.2.2.1 u8.2.2.2.2.2.2.2.2.2.2.2.2.2.2.1 u8.2.2.2.2.2.2.2.2.2.2.2.2.2.2.2.1 u8.2.2.2.2.2.2.2.2.2.2.2.2.2.2.2.2) 20 [(0, .ref a0.1), (1, .int i0), (2, .int i1)] _ [] rfl rfl rfl rfl ?_
      refine v_aload_n (pc2 := 21) S 0 dX9_guestOpens_20 rfl rfl rfl ?_
      refine v_iload_n (pc2 := 22) S 1 dX9_guestOpens_21 rfl rfl rfl ?_
      refine v_iload_n (pc2 := 23) S 2 dX9_guestOpens_22 rfl rfl rfl ?_
      refine v_callV (pc2 := 26) (As := [.int i0, .int i1]) (rest := []) S (c_X9_guestOpensNow l G a0 u8 i0 i1 _ hw) mf_X9_guestOpensNow u_923 u_925 u_35 0 9 rfl rfl rfl rfl ⟨rfl, rfl⟩ ⟨Nat.le_of_ble_eq_true rfl, Nat.le_of_ble_eq_true rfl⟩ ⟨Nat.le_of_ble_eq_true rfl, Nat.le_of_ble_eq_true rfl⟩ (Nat.le_of_ble_eq_true rfl) dX9_guestOpens_23 (frW _) rfl (pi (fun r9 u10 hw => ?_))
      refine v_to (wMod G a0 u10.1 u10.2.1 u10.2.2.1 u10.2.2.2.1 u10.2.2.2.2.1 u10.2.2.2.2.2.1 u10.2.2.2.2.2.2.1 u10.2.2.2.2.2.2.2.1 u10.2.2.2.2.2.2.2.2.1 u10.2.2.2.2.2.2.2.2.2.1 u10.2.2.2.2.2.2.2.2.2.2.1 u10.2.2.2.2.2.2.2.2.2.2.2.1 u10.2.2.2.2.2.2.2.2.2.2.2.2.1 u10.2.2.2.2.2.2.2.2.2.2.2.2.2.1 u10.2.2.2.2.2.2.2.2.2.2.2.2.2.2.1 u10.2.2.2.2.2.2.2.2.2.2.2.2.2.2.2.1 u10.2.2.2.2.2.2.2.2.2.2.2.2.2.2.2.2) 26 [(0, .ref a0.1), (1, .int i0), (2, .int i1)] _ [.int r9] rfl rfl rfl rfl ?_
      exact v_iret S ⟨r9, u10, rfl, rfl, hw⟩ dX9_guestOpens_26
    · have hw := hw.2 c6
      refine v_iconst (v := -1) (pc2 := 15) S dX9_guestOpens_14 (by decide) rfl ?_
      exact v_iret S ⟨(-1 : Int32), v0, rfl, rfl, hw⟩ dX9_guestOpens_15
set_option maxHeartbeats 4000000 in
set_option maxRecDepth 100000 in
theorem c_X9_guestShuts (l : Launch) (G : GG) (a0 : ModA) (v0 : ModV) (i0 : Int32) (i1 : Int32) (Q : Int32 → ModV → Prop) (hw : wp_X9_guestShuts v0 i0 i1 Q) : Con l G yX9_guestShuts cX9_guestShuts 3 (some .int) { frames := 4, cells := 0, slots := 0, locals := 88 } [.ref a0.1, .int i0, .int i1] (wMod G a0 v0.1 v0.2.1 v0.2.2.1 v0.2.2.2.1 v0.2.2.2.2.1 v0.2.2.2.2.2.1 v0.2.2.2.2.2.2.1 v0.2.2.2.2.2.2.2.1 v0.2.2.2.2.2.2.2.2.1 v0.2.2.2.2.2.2.2.2.2.1 v0.2.2.2.2.2.2.2.2.2.2.1 v0.2.2.2.2.2.2.2.2.2.2.2.1 v0.2.2.2.2.2.2.2.2.2.2.2.2.1 v0.2.2.2.2.2.2.2.2.2.2.2.2.2.1 v0.2.2.2.2.2.2.2.2.2.2.2.2.2.2.1 v0.2.2.2.2.2.2.2.2.2.2.2.2.2.2.2.1 v0.2.2.2.2.2.2.2.2.2.2.2.2.2.2.2.2) (PI (fun u : ModV => wMod G a0 u.1 u.2.1 u.2.2.1 u.2.2.2.1 u.2.2.2.2.1 u.2.2.2.2.2.1 u.2.2.2.2.2.2.1 u.2.2.2.2.2.2.2.1 u.2.2.2.2.2.2.2.2.1 u.2.2.2.2.2.2.2.2.2.1 u.2.2.2.2.2.2.2.2.2.2.1 u.2.2.2.2.2.2.2.2.2.2.2.1 u.2.2.2.2.2.2.2.2.2.2.2.2.1 u.2.2.2.2.2.2.2.2.2.2.2.2.2.1 u.2.2.2.2.2.2.2.2.2.2.2.2.2.2.1 u.2.2.2.2.2.2.2.2.2.2.2.2.2.2.2.1 u.2.2.2.2.2.2.2.2.2.2.2.2.2.2.2.2) Q) 0 0 := by
  refine con_of RX9 rfl (by decide) [(0, .ref a0.1), (1, .int i0), (2, .int i1)] rfl (Nat.le_of_ble_eq_true rfl) ?_
  intro p e s m args below meth c S hname
  refine v_iload_n (pc2 := 1) S 1 dX9_guestShuts_0 rfl rfl rfl ?_
  refine v_callS (pc2 := 4) (As := [.int i0]) (rest := []) S (c_X9_isGuest l G i0 _ hw) mf_X9_isGuest u_920 u_921 rfl rfl ⟨rfl, rfl⟩ ⟨Nat.le_of_ble_eq_true rfl, Nat.le_of_ble_eq_true rfl⟩ ⟨Nat.le_of_ble_eq_true rfl, Nat.le_of_ble_eq_true rfl⟩ (Nat.le_of_ble_eq_true rfl) dX9_guestShuts_1 (frM [] [] _) rfl (pb (fun r1 u2 br1 hw => ?_))
  refine v_to (wMod G a0 v0.1 v0.2.1 v0.2.2.1 v0.2.2.2.1 v0.2.2.2.2.1 v0.2.2.2.2.2.1 v0.2.2.2.2.2.2.1 v0.2.2.2.2.2.2.2.1 v0.2.2.2.2.2.2.2.2.1 v0.2.2.2.2.2.2.2.2.2.1 v0.2.2.2.2.2.2.2.2.2.2.1 v0.2.2.2.2.2.2.2.2.2.2.2.1 v0.2.2.2.2.2.2.2.2.2.2.2.2.1 v0.2.2.2.2.2.2.2.2.2.2.2.2.2.1 v0.2.2.2.2.2.2.2.2.2.2.2.2.2.2.1 v0.2.2.2.2.2.2.2.2.2.2.2.2.2.2.2.1 v0.2.2.2.2.2.2.2.2.2.2.2.2.2.2.2.2) 4 [(0, .ref a0.1), (1, .int i0), (2, .int i1)] _ [.int r1] rfl rfl rfl rfl ?_
  refine v_if_eq (pc2 := 7) (tgt := 14) S dX9_guestShuts_4 (by decide) rfl (fun c3 => ?_) (fun c3 => ?_)
  · have hw := hw.1 c3
    refine v_iconst (v := -1) (pc2 := 15) S dX9_guestShuts_14 (by decide) rfl ?_
    exact v_iret S ⟨(-1 : Int32), v0, rfl, rfl, hw⟩ dX9_guestShuts_15
  · have hw := hw.2 c3
    refine v_iload_n (pc2 := 8) S 2 dX9_guestShuts_7 rfl rfl rfl ?_
    refine v_callS (pc2 := 11) (As := [.int i1]) (rest := []) S (c_X9_isDoor l G i1 _ hw) mf_X9_isDoor u_858 u_859 rfl rfl ⟨rfl, rfl⟩ ⟨Nat.le_of_ble_eq_true rfl, Nat.le_of_ble_eq_true rfl⟩ ⟨Nat.le_of_ble_eq_true rfl, Nat.le_of_ble_eq_true rfl⟩ (Nat.le_of_ble_eq_true rfl) dX9_guestShuts_8 (frM [] [] _) rfl (pb (fun r4 u5 br4 hw => ?_))
    refine v_to (wMod G a0 v0.1 v0.2.1 v0.2.2.1 v0.2.2.2.1 v0.2.2.2.2.1 v0.2.2.2.2.2.1 v0.2.2.2.2.2.2.1 v0.2.2.2.2.2.2.2.1 v0.2.2.2.2.2.2.2.2.1 v0.2.2.2.2.2.2.2.2.2.1 v0.2.2.2.2.2.2.2.2.2.2.1 v0.2.2.2.2.2.2.2.2.2.2.2.1 v0.2.2.2.2.2.2.2.2.2.2.2.2.1 v0.2.2.2.2.2.2.2.2.2.2.2.2.2.1 v0.2.2.2.2.2.2.2.2.2.2.2.2.2.2.1 v0.2.2.2.2.2.2.2.2.2.2.2.2.2.2.2.1 v0.2.2.2.2.2.2.2.2.2.2.2.2.2.2.2.2) 11 [(0, .ref a0.1), (1, .int i0), (2, .int i1)] _ [.int r4] rfl rfl rfl rfl ?_
    refine v_if_ne (pc2 := 14) (tgt := 16) S dX9_guestShuts_11 (by decide) rfl (fun c6 => ?_) (fun c6 => ?_)
    · have hw := hw.1 c6
      refine v_aload_n (pc2 := 17) S 0 dX9_guestShuts_16 rfl rfl rfl ?_
      refine v_callV (pc2 := 20) (As := []) (rest := []) S (c_X9_record l G a0 v0 _ hw) mf_X9_record u_850 u_852 u_22 0 9 rfl rfl rfl rfl ⟨rfl, rfl⟩ ⟨Nat.le_of_ble_eq_true rfl, Nat.le_of_ble_eq_true rfl⟩ ⟨Nat.le_of_ble_eq_true rfl, Nat.le_of_ble_eq_true rfl⟩ (Nat.le_of_ble_eq_true rfl) dX9_guestShuts_17 (frW _) rfl (pv (fun u8 hw => ?_))
      refine v_to (wMod G a0 u8.1 u8.2.1 u8.2.2.1 u8.2.2.2.1 u8.2.2.2.2.1 u8.2.2.2.2.2.1 u8.2.2.2.2.2.2.1 u8.2.2.2.2.2.2.2.1 u8.2.2.2.2.2.2.2.2.1 u8.2.2.2.2.2.2.2.2.2.1 u8.2.2.2.2.2.2.2.2.2.2.1 u8.2.2.2.2.2.2.2.2.2.2.2.1 u8.2.2.2.2.2.2.2.2.2.2.2.2.1 u8.2.2.2.2.2.2.2.2.2.2.2.2.2.1 u8.2.2.2.2.2.2.2.2.2.2.2.2.2.2.1 u8.2.2.2.2.2.2.2.2.2.2.2.2.2.2.2.1 u8.2.2.2.2.2.2.2.2.2.2.2.2.2.2.2.2) 20 [(0, .ref a0.1), (1, .int i0), (2, .int i1)] _ [] rfl rfl rfl rfl ?_
      refine v_aload_n (pc2 := 21) S 0 dX9_guestShuts_20 rfl rfl rfl ?_
      refine v_iload_n (pc2 := 22) S 1 dX9_guestShuts_21 rfl rfl rfl ?_
      refine v_iload_n (pc2 := 23) S 2 dX9_guestShuts_22 rfl rfl rfl ?_
      refine v_callV (pc2 := 26) (As := [.int i0, .int i1]) (rest := []) S (c_X9_guestShutsNow l G a0 u8 i0 i1 _ hw) mf_X9_guestShutsNow u_943 u_945 u_39 0 9 rfl rfl rfl rfl ⟨rfl, rfl⟩ ⟨Nat.le_of_ble_eq_true rfl, Nat.le_of_ble_eq_true rfl⟩ ⟨Nat.le_of_ble_eq_true rfl, Nat.le_of_ble_eq_true rfl⟩ (Nat.le_of_ble_eq_true rfl) dX9_guestShuts_23 (frW _) rfl (pi (fun r9 u10 hw => ?_))
      refine v_to (wMod G a0 u10.1 u10.2.1 u10.2.2.1 u10.2.2.2.1 u10.2.2.2.2.1 u10.2.2.2.2.2.1 u10.2.2.2.2.2.2.1 u10.2.2.2.2.2.2.2.1 u10.2.2.2.2.2.2.2.2.1 u10.2.2.2.2.2.2.2.2.2.1 u10.2.2.2.2.2.2.2.2.2.2.1 u10.2.2.2.2.2.2.2.2.2.2.2.1 u10.2.2.2.2.2.2.2.2.2.2.2.2.1 u10.2.2.2.2.2.2.2.2.2.2.2.2.2.1 u10.2.2.2.2.2.2.2.2.2.2.2.2.2.2.1 u10.2.2.2.2.2.2.2.2.2.2.2.2.2.2.2.1 u10.2.2.2.2.2.2.2.2.2.2.2.2.2.2.2.2) 26 [(0, .ref a0.1), (1, .int i0), (2, .int i1)] _ [.int r9] rfl rfl rfl rfl ?_
      exact v_iret S ⟨r9, u10, rfl, rfl, hw⟩ dX9_guestShuts_26
    · have hw := hw.2 c6
      refine v_iconst (v := -1) (pc2 := 15) S dX9_guestShuts_14 (by decide) rfl ?_
      exact v_iret S ⟨(-1 : Int32), v0, rfl, rfl, hw⟩ dX9_guestShuts_15
set_option maxHeartbeats 4000000 in
set_option maxRecDepth 100000 in
theorem c_X9_walk (l : Launch) (G : GG) (a0 : ModA) (v0 : ModV) (i0 : Int32) (i1 : Int32) (Q : Int32 → ModV → Prop) (hw : wp_X9_walk v0 i0 i1 Q) : Con l G yX9_walk cX9_walk 3 (some .int) { frames := 4, cells := 0, slots := 0, locals := 89 } [.ref a0.1, .int i0, .int i1] (wMod G a0 v0.1 v0.2.1 v0.2.2.1 v0.2.2.2.1 v0.2.2.2.2.1 v0.2.2.2.2.2.1 v0.2.2.2.2.2.2.1 v0.2.2.2.2.2.2.2.1 v0.2.2.2.2.2.2.2.2.1 v0.2.2.2.2.2.2.2.2.2.1 v0.2.2.2.2.2.2.2.2.2.2.1 v0.2.2.2.2.2.2.2.2.2.2.2.1 v0.2.2.2.2.2.2.2.2.2.2.2.2.1 v0.2.2.2.2.2.2.2.2.2.2.2.2.2.1 v0.2.2.2.2.2.2.2.2.2.2.2.2.2.2.1 v0.2.2.2.2.2.2.2.2.2.2.2.2.2.2.2.1 v0.2.2.2.2.2.2.2.2.2.2.2.2.2.2.2.2) (PI (fun u : ModV => wMod G a0 u.1 u.2.1 u.2.2.1 u.2.2.2.1 u.2.2.2.2.1 u.2.2.2.2.2.1 u.2.2.2.2.2.2.1 u.2.2.2.2.2.2.2.1 u.2.2.2.2.2.2.2.2.1 u.2.2.2.2.2.2.2.2.2.1 u.2.2.2.2.2.2.2.2.2.2.1 u.2.2.2.2.2.2.2.2.2.2.2.1 u.2.2.2.2.2.2.2.2.2.2.2.2.1 u.2.2.2.2.2.2.2.2.2.2.2.2.2.1 u.2.2.2.2.2.2.2.2.2.2.2.2.2.2.1 u.2.2.2.2.2.2.2.2.2.2.2.2.2.2.2.1 u.2.2.2.2.2.2.2.2.2.2.2.2.2.2.2.2) Q) 0 0 := by
  refine con_of RX9 rfl (by decide) [(0, .ref a0.1), (1, .int i0), (2, .int i1)] rfl (Nat.le_of_ble_eq_true rfl) ?_
  intro p e s m args below meth c S hname
  refine v_iload_n (pc2 := 1) S 1 dX9_walk_0 rfl rfl rfl ?_
  refine v_callS (pc2 := 4) (As := [.int i0]) (rest := []) S (c_X9_isGuest l G i0 _ hw) mf_X9_isGuest u_920 u_921 rfl rfl ⟨rfl, rfl⟩ ⟨Nat.le_of_ble_eq_true rfl, Nat.le_of_ble_eq_true rfl⟩ ⟨Nat.le_of_ble_eq_true rfl, Nat.le_of_ble_eq_true rfl⟩ (Nat.le_of_ble_eq_true rfl) dX9_walk_1 (frM [] [] _) rfl (pb (fun r1 u2 br1 hw => ?_))
  refine v_to (wMod G a0 v0.1 v0.2.1 v0.2.2.1 v0.2.2.2.1 v0.2.2.2.2.1 v0.2.2.2.2.2.1 v0.2.2.2.2.2.2.1 v0.2.2.2.2.2.2.2.1 v0.2.2.2.2.2.2.2.2.1 v0.2.2.2.2.2.2.2.2.2.1 v0.2.2.2.2.2.2.2.2.2.2.1 v0.2.2.2.2.2.2.2.2.2.2.2.1 v0.2.2.2.2.2.2.2.2.2.2.2.2.1 v0.2.2.2.2.2.2.2.2.2.2.2.2.2.1 v0.2.2.2.2.2.2.2.2.2.2.2.2.2.2.1 v0.2.2.2.2.2.2.2.2.2.2.2.2.2.2.2.1 v0.2.2.2.2.2.2.2.2.2.2.2.2.2.2.2.2) 4 [(0, .ref a0.1), (1, .int i0), (2, .int i1)] _ [.int r1] rfl rfl rfl rfl ?_
  refine v_if_eq (pc2 := 7) (tgt := 14) S dX9_walk_4 (by decide) rfl (fun c3 => ?_) (fun c3 => ?_)
  · have hw := hw.1 c3
    refine v_iconst (v := -1) (pc2 := 15) S dX9_walk_14 (by decide) rfl ?_
    exact v_iret S ⟨(-1 : Int32), v0, rfl, rfl, hw⟩ dX9_walk_15
  · have hw := hw.2 c3
    refine v_iload_n (pc2 := 8) S 2 dX9_walk_7 rfl rfl rfl ?_
    refine v_callS (pc2 := 11) (As := [.int i1]) (rest := []) S (c_X9_isDoor l G i1 _ hw) mf_X9_isDoor u_858 u_859 rfl rfl ⟨rfl, rfl⟩ ⟨Nat.le_of_ble_eq_true rfl, Nat.le_of_ble_eq_true rfl⟩ ⟨Nat.le_of_ble_eq_true rfl, Nat.le_of_ble_eq_true rfl⟩ (Nat.le_of_ble_eq_true rfl) dX9_walk_8 (frM [] [] _) rfl (pb (fun r4 u5 br4 hw => ?_))
    refine v_to (wMod G a0 v0.1 v0.2.1 v0.2.2.1 v0.2.2.2.1 v0.2.2.2.2.1 v0.2.2.2.2.2.1 v0.2.2.2.2.2.2.1 v0.2.2.2.2.2.2.2.1 v0.2.2.2.2.2.2.2.2.1 v0.2.2.2.2.2.2.2.2.2.1 v0.2.2.2.2.2.2.2.2.2.2.1 v0.2.2.2.2.2.2.2.2.2.2.2.1 v0.2.2.2.2.2.2.2.2.2.2.2.2.1 v0.2.2.2.2.2.2.2.2.2.2.2.2.2.1 v0.2.2.2.2.2.2.2.2.2.2.2.2.2.2.1 v0.2.2.2.2.2.2.2.2.2.2.2.2.2.2.2.1 v0.2.2.2.2.2.2.2.2.2.2.2.2.2.2.2.2) 11 [(0, .ref a0.1), (1, .int i0), (2, .int i1)] _ [.int r4] rfl rfl rfl rfl ?_
    refine v_if_ne (pc2 := 14) (tgt := 16) S dX9_walk_11 (by decide) rfl (fun c6 => ?_) (fun c6 => ?_)
    · have hw := hw.1 c6
      refine v_aload_n (pc2 := 17) S 0 dX9_walk_16 rfl rfl rfl ?_
      refine v_callV (pc2 := 20) (As := []) (rest := []) S (c_X9_record l G a0 v0 _ hw) mf_X9_record u_850 u_852 u_22 0 9 rfl rfl rfl rfl ⟨rfl, rfl⟩ ⟨Nat.le_of_ble_eq_true rfl, Nat.le_of_ble_eq_true rfl⟩ ⟨Nat.le_of_ble_eq_true rfl, Nat.le_of_ble_eq_true rfl⟩ (Nat.le_of_ble_eq_true rfl) dX9_walk_17 (frW _) rfl (pv (fun u8 hw => ?_))
      refine v_to (wMod G a0 u8.1 u8.2.1 u8.2.2.1 u8.2.2.2.1 u8.2.2.2.2.1 u8.2.2.2.2.2.1 u8.2.2.2.2.2.2.1 u8.2.2.2.2.2.2.2.1 u8.2.2.2.2.2.2.2.2.1 u8.2.2.2.2.2.2.2.2.2.1 u8.2.2.2.2.2.2.2.2.2.2.1 u8.2.2.2.2.2.2.2.2.2.2.2.1 u8.2.2.2.2.2.2.2.2.2.2.2.2.1 u8.2.2.2.2.2.2.2.2.2.2.2.2.2.1 u8.2.2.2.2.2.2.2.2.2.2.2.2.2.2.1 u8.2.2.2.2.2.2.2.2.2.2.2.2.2.2.2.1 u8.2.2.2.2.2.2.2.2.2.2.2.2.2.2.2.2) 20 [(0, .ref a0.1), (1, .int i0), (2, .int i1)] _ [] rfl rfl rfl rfl ?_
      refine v_aload_n (pc2 := 21) S 0 dX9_walk_20 rfl rfl rfl ?_
      refine v_iload_n (pc2 := 22) S 1 dX9_walk_21 rfl rfl rfl ?_
      refine v_iload_n (pc2 := 23) S 2 dX9_walk_22 rfl rfl rfl ?_
      refine v_callV (pc2 := 26) (As := [.int i0, .int i1]) (rest := []) S (c_X9_walkNow l G a0 u8 i0 i1 _ hw) mf_X9_walkNow u_951 u_953 u_40 0 9 rfl rfl rfl rfl ⟨rfl, rfl⟩ ⟨Nat.le_of_ble_eq_true rfl, Nat.le_of_ble_eq_true rfl⟩ ⟨Nat.le_of_ble_eq_true rfl, Nat.le_of_ble_eq_true rfl⟩ (Nat.le_of_ble_eq_true rfl) dX9_walk_23 (frW _) rfl (pi (fun r9 u10 hw => ?_))
      refine v_to (wMod G a0 u10.1 u10.2.1 u10.2.2.1 u10.2.2.2.1 u10.2.2.2.2.1 u10.2.2.2.2.2.1 u10.2.2.2.2.2.2.1 u10.2.2.2.2.2.2.2.1 u10.2.2.2.2.2.2.2.2.1 u10.2.2.2.2.2.2.2.2.2.1 u10.2.2.2.2.2.2.2.2.2.2.1 u10.2.2.2.2.2.2.2.2.2.2.2.1 u10.2.2.2.2.2.2.2.2.2.2.2.2.1 u10.2.2.2.2.2.2.2.2.2.2.2.2.2.1 u10.2.2.2.2.2.2.2.2.2.2.2.2.2.2.1 u10.2.2.2.2.2.2.2.2.2.2.2.2.2.2.2.1 u10.2.2.2.2.2.2.2.2.2.2.2.2.2.2.2.2) 26 [(0, .ref a0.1), (1, .int i0), (2, .int i1)] _ [.int r9] rfl rfl rfl rfl ?_
      exact v_iret S ⟨r9, u10, rfl, rfl, hw⟩ dX9_walk_26
    · have hw := hw.2 c6
      refine v_iconst (v := -1) (pc2 := 15) S dX9_walk_14 (by decide) rfl ?_
      exact v_iret S ⟨(-1 : Int32), v0, rfl, rfl, hw⟩ dX9_walk_15
