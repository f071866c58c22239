set_option maxHeartbeats 4000000 in
set_option maxRecDepth 100000 in
theorem c_X8_init (l : Launch) (G : GG) (a0 : Nat) (Q : CDV → Prop) (hw : wp_X8_init Q) : Con l G yX8_init cX8_init 1 none { frames := 5, cells := 92, slots := 12933, locals := 107 } [.ref a0] [(a0, .inr (8, [.null, .null, .null, .int 0, .null, .null, .null]))] (PV (fun u : CDA × CDV => wCD G u.1 u.2.1 u.2.2.1 u.2.2.2.1 u.2.2.2.2.1 u.2.2.2.2.2.1 u.2.2.2.2.2.2.1 u.2.2.2.2.2.2.2) (fun u => u.1.1 = a0 ∧ Q u.2)) 92 12933 := by
  refine con_of RX8 rfl (by decide) [(0, .ref a0)] rfl (Nat.le_of_ble_eq_true rfl) ?_
  intro p e s m args below meth c S hname
  refine v_aload_n (pc2 := 1) S 0 dX8_init_0 rfl rfl rfl ?_
  refine v_objInit (pc2 := 4) S u_38 u_39 u_40 (Nat.le_of_ble_eq_true rfl) (Nat.le_of_ble_eq_true rfl) dX8_init_1 rfl ?_
  refine v_aload_n (pc2 := 5) S 0 dX8_init_4 rfl rfl rfl ?_
  refine v_new (a := 0) (ci := 5) (N := 4) (C := RX5) (T := TX5) (fs := [.null, .null, .null, .int 0]) (pc2 := 8) S tyX5 tyX5_ok rfl inX5 u_41 u_42 u_21 (fun j hj => by match j, hj with | 0, _ => rfl | 1, _ => rfl | 2, _ => rfl | 3, _ => rfl) (Nat.le_of_ble_eq_true rfl) (Nat.le_of_ble_eq_true rfl) dX8_init_5 rfl (fun q1 => ?_)
  refine v_to ([(a0, .inr (8, [.null, .null, .null, .int 0, .null, .null, .null])), (q1, .inr (5, [.null, .null, .null, .int 0]))]) 8 [(0, .ref a0)] _ [.ref q1, .ref a0] rfl rfl rfl rfl ?_
  refine v_dup (pc2 := 9) S dX8_init_8 rfl rfl ?_
  refine v_callIN (rt2 := none) (pc2 := 12) (As := []) (rest := [.ref q1, .ref a0]) S (c_X5_init l G q1 _ hw) mf_X5_init u_43 u_44 rfl rfl rfl ⟨rfl, rfl⟩ ⟨Nat.le_of_ble_eq_true rfl, Nat.le_of_ble_eq_true rfl⟩ ⟨Nat.le_of_ble_eq_true rfl, Nat.le_of_ble_eq_true rfl⟩ (Nat.le_of_ble_eq_true rfl) dX8_init_9 (frM ([(a0, .inr (8, [.null, .null, .null, .int 0, .null, .null, .null]))]) [(q1, .inr (5, [.null, .null, .null, .int 0]))] []) rfl (pv (fun u2 hw => ?_))
  obtain ⟨⟨b3, b3r⟩, v4⟩ := u2
  obtain ⟨hq, hw⟩ := hw
  have hq : b3 = q1 := hq
  subst b3
  refine v_to (([(a0, .inr (8, [.null, .null, .null, .int 0, .null, .null, .null]))] : va_W) ++ (wSt G (q1, b3r) v4.1 v4.2.1 v4.2.2.1 v4.2.2.2)) 12 [(0, .ref a0)] _ [.ref q1, .ref a0] rfl rfl rfl rfl ?_
  refine v_putF (ws2 := ([(a0, .inr (8, [.ref q1, .null, .null, .int 0, .null, .null, .null]))] : va_W) ++ (wSt G (q1, b3r) v4.1 v4.2.1 v4.2.2.1 v4.2.2.2)) (pc2 := 15) S (show meth.name = "<init>" from hname) gf_X8_12 pf_X8_0 rfl 0 rfl rfl rfl (Nat.le_of_ble_eq_true rfl) rfl dX8_init_12 rfl ?_
  refine v_aload_n (pc2 := 16) S 0 dX8_init_15 rfl rfl rfl ?_
  refine v_new (a := 0) (ci := 2) (N := 3) (C := RX2) (T := TX2) (fs := [.null, .int 0, .int 0]) (pc2 := 19) S tyX2 tyX2_ok rfl inX2 u_161 u_162 u_26 (fun j hj => by match j, hj with | 0, _ => rfl | 1, _ => rfl | 2, _ => rfl) (Nat.le_of_ble_eq_true rfl) (Nat.le_of_ble_eq_true rfl) dX8_init_16 rfl (fun q5 => ?_)
  refine v_to (([(a0, .inr (8, [.ref q1, .null, .null, .int 0, .null, .null, .null]))] : va_W) ++ ((wSt G (q1, b3r) v4.1 v4.2.1 v4.2.2.1 v4.2.2.2) ++ (([(q5, .inr (2, [.null, .int 0, .int 0]))] : va_W)))) 19 [(0, .ref a0)] _ [.ref q5, .ref a0] rfl rfl rfl rfl ?_
  refine v_dup (pc2 := 20) S dX8_init_19 rfl rfl ?_
  refine v_callI (rt2 := none) (pc2 := 23) (As := []) (rest := [.ref q5, .ref a0]) S (c_X2_init l G q5 _ hw) mf_X2_init u_163 u_164 rfl rfl rfl ⟨rfl, rfl⟩ ⟨Nat.le_of_ble_eq_true rfl, Nat.le_of_ble_eq_true rfl⟩ ⟨Nat.le_of_ble_eq_true rfl, Nat.le_of_ble_eq_true rfl⟩ (Nat.le_of_ble_eq_true rfl) dX8_init_20 (frM (([(a0, .inr (8, [.ref q1, .null, .null, .int 0, .null, .null, .null]))] : va_W) ++ (wSt G (q1, b3r) v4.1 v4.2.1 v4.2.2.1 v4.2.2.2)) [(q5, .inr (2, [.null, .int 0, .int 0]))] []) rfl (pv (fun u6 hw => ?_))
  obtain ⟨⟨b7, b7r⟩, v8⟩ := u6
  obtain ⟨hq, hw⟩ := hw
  have hq : b7 = q5 := hq
  subst b7
  refine v_to (([(a0, .inr (8, [.ref q1, .null, .null, .int 0, .null, .null, .null]))] : va_W) ++ ((wSt G (q1, b3r) v4.1 v4.2.1 v4.2.2.1 v4.2.2.2) ++ (wHist G (q5, b7r) v8.1 v8.2.1 v8.2.2))) 23 [(0, .ref a0)] _ [.ref q5, .ref a0] rfl rfl rfl rfl ?_
  refine v_putF (ws2 := ([(a0, .inr (8, [.ref q1, .ref q5, .null, .int 0, .null, .null, .null]))] : va_W) ++ ((wSt G (q1, b3r) v4.1 v4.2.1 v4.2.2.1 v4.2.2.2) ++ (wHist G (q5, b7r) v8.1 v8.2.1 v8.2.2))) (pc2 := 26) S (show meth.name = "<init>" from hname) gf_X8_19 pf_X8_1 rfl 0 rfl rfl rfl (Nat.le_of_ble_eq_true rfl) rfl dX8_init_23 rfl ?_
  refine v_aload_n (pc2 := 27) S 0 dX8_init_26 rfl rfl rfl ?_
  refine v_new (a := 0) (ci := 5) (N := 4) (C := RX5) (T := TX5) (fs := [.null, .null, .null, .int 0]) (pc2 := 30) S tyX5 tyX5_ok rfl inX5 u_41 u_42 u_21 (fun j hj => by match j, hj with | 0, _ => rfl | 1, _ => rfl | 2, _ => rfl | 3, _ => rfl) (Nat.le_of_ble_eq_true rfl) (Nat.le_of_ble_eq_true rfl) dX8_init_27 rfl (fun q9 => ?_)
  refine v_to (([(a0, .inr (8, [.ref q1, .ref q5, .null, .int 0, .null, .null, .null]))] : va_W) ++ ((wSt G (q1, b3r) v4.1 v4.2.1 v4.2.2.1 v4.2.2.2) ++ ((wHist G (q5, b7r) v8.1 v8.2.1 v8.2.2) ++ (([(q9, .inr (5, [.null, .null, .null, .int 0]))] : va_W))))) 30 [(0, .ref a0)] _ [.ref q9, .ref a0] rfl rfl rfl rfl ?_
  refine v_dup (pc2 := 31) S dX8_init_30 rfl rfl ?_
  refine v_callIN (rt2 := none) (pc2 := 34) (As := []) (rest := [.ref q9, .ref a0]) S (c_X5_init l G q9 _ hw) mf_X5_init u_43 u_44 rfl rfl rfl ⟨rfl, rfl⟩ ⟨Nat.le_of_ble_eq_true rfl, Nat.le_of_ble_eq_true rfl⟩ ⟨Nat.le_of_ble_eq_true rfl, Nat.le_of_ble_eq_true rfl⟩ (Nat.le_of_ble_eq_true rfl) dX8_init_31 (frM (([(a0, .inr (8, [.ref q1, .ref q5, .null, .int 0, .null, .null, .null]))] : va_W) ++ ((wSt G (q1, b3r) v4.1 v4.2.1 v4.2.2.1 v4.2.2.2) ++ (wHist G (q5, b7r) v8.1 v8.2.1 v8.2.2))) [(q9, .inr (5, [.null, .null, .null, .int 0]))] []) rfl (pv (fun u10 hw => ?_))
  obtain ⟨⟨b11, b11r⟩, v12⟩ := u10
  obtain ⟨hq, hw⟩ := hw
  have hq : b11 = q9 := hq
  subst b11
  refine v_to (([(a0, .inr (8, [.ref q1, .ref q5, .null, .int 0, .null, .null, .null]))] : va_W) ++ ((wSt G (q1, b3r) v4.1 v4.2.1 v4.2.2.1 v4.2.2.2) ++ ((wHist G (q5, b7r) v8.1 v8.2.1 v8.2.2) ++ (wSt G (q9, b11r) v12.1 v12.2.1 v12.2.2.1 v12.2.2.2)))) 34 [(0, .ref a0)] _ [.ref q9, .ref a0] rfl rfl rfl rfl ?_
  refine v_putF (ws2 := ([(a0, .inr (8, [.ref q1, .ref q5, .ref q9, .int 0, .null, .null, .null]))] : va_W) ++ ((wSt G (q1, b3r) v4.1 v4.2.1 v4.2.2.1 v4.2.2.2) ++ ((wHist G (q5, b7r) v8.1 v8.2.1 v8.2.2) ++ (wSt G (q9, b11r) v12.1 v12.2.1 v12.2.2.1 v12.2.2.2)))) (pc2 := 37) S (show meth.name = "<init>" from hname) gf_X8_23 pf_X8_2 rfl 0 rfl rfl rfl (Nat.le_of_ble_eq_true rfl) rfl dX8_init_34 rfl ?_
  refine v_aload_n (pc2 := 38) S 0 dX8_init_37 rfl rfl rfl ?_
  refine v_iconst (v := 0) (pc2 := 39) S dX8_init_38 (by decide) rfl ?_
  refine v_put (ws2 := ([(a0, .inr (8, [.ref q1, .ref q5, .ref q9, .int (0 : Int32), .null, .null, .null]))] : va_W) ++ ((wSt G (q1, b3r) v4.1 v4.2.1 v4.2.2.1 v4.2.2.2) ++ ((wHist G (q5, b7r) v8.1 v8.2.1 v8.2.2) ++ (wSt G (q9, b11r) v12.1 v12.2.1 v12.2.2.1 v12.2.2.2)))) (pc2 := 42) S gf_X8_26 pf_X8_3 0 rfl (by decide) (by decide) (Nat.le_of_ble_eq_true rfl) rfl dX8_init_39 rfl ?_
  refine v_aload_n (pc2 := 43) S 0 dX8_init_42 rfl rfl rfl ?_
  refine v_new (a := 0) (ci := 4) (N := 2) (C := RX4) (T := TX4) (fs := [.null, .int 0]) (pc2 := 46) S tyX4 tyX4_ok rfl inX4 u_181 u_182 u_27 (fun j hj => by match j, hj with | 0, _ => rfl | 1, _ => rfl) (Nat.le_of_ble_eq_true rfl) (Nat.le_of_ble_eq_true rfl) dX8_init_43 rfl (fun q13 => ?_)
  refine v_to (([(a0, .inr (8, [.ref q1, .ref q5, .ref q9, .int (0 : Int32), .null, .null, .null]))] : va_W) ++ ((wSt G (q1, b3r) v4.1 v4.2.1 v4.2.2.1 v4.2.2.2) ++ ((wHist G (q5, b7r) v8.1 v8.2.1 v8.2.2) ++ ((wSt G (q9, b11r) v12.1 v12.2.1 v12.2.2.1 v12.2.2.2) ++ (([(q13, .inr (4, [.null, .int 0]))] : va_W)))))) 46 [(0, .ref a0)] _ [.ref q13, .ref a0] rfl rfl rfl rfl ?_
  refine v_dup (pc2 := 47) S dX8_init_46 rfl rfl ?_
  refine v_callIN (rt2 := none) (pc2 := 50) (As := []) (rest := [.ref q13, .ref a0]) S (c_X4_init l G q13 _ hw) mf_X4_init u_183 u_184 rfl rfl rfl ⟨rfl, rfl⟩ ⟨Nat.le_of_ble_eq_true rfl, Nat.le_of_ble_eq_true rfl⟩ ⟨Nat.le_of_ble_eq_true rfl, Nat.le_of_ble_eq_true rfl⟩ (Nat.le_of_ble_eq_true rfl) dX8_init_47 (frM (([(a0, .inr (8, [.ref q1, .ref q5, .ref q9, .int (0 : Int32), .null, .null, .null]))] : va_W) ++ ((wSt G (q1, b3r) v4.1 v4.2.1 v4.2.2.1 v4.2.2.2) ++ ((wHist G (q5, b7r) v8.1 v8.2.1 v8.2.2) ++ (wSt G (q9, b11r) v12.1 v12.2.1 v12.2.2.1 v12.2.2.2)))) [(q13, .inr (4, [.null, .int 0]))] []) rfl (pv (fun u14 hw => ?_))
  obtain ⟨⟨b15, b15r⟩, v16⟩ := u14
  obtain ⟨hq, hw⟩ := hw
  have hq : b15 = q13 := hq
  subst b15
  refine v_to (([(a0, .inr (8, [.ref q1, .ref q5, .ref q9, .int (0 : Int32), .null, .null, .null]))] : va_W) ++ ((wSt G (q1, b3r) v4.1 v4.2.1 v4.2.2.1 v4.2.2.2) ++ ((wHist G (q5, b7r) v8.1 v8.2.1 v8.2.2) ++ ((wSt G (q9, b11r) v12.1 v12.2.1 v12.2.2.1 v12.2.2.2) ++ (wPad G (q13, b15r) v16.1 v16.2))))) 50 [(0, .ref a0)] _ [.ref q13, .ref a0] rfl rfl rfl rfl ?_
  refine v_putF (ws2 := ([(a0, .inr (8, [.ref q1, .ref q5, .ref q9, .int (0 : Int32), .ref q13, .null, .null]))] : va_W) ++ ((wSt G (q1, b3r) v4.1 v4.2.1 v4.2.2.1 v4.2.2.2) ++ ((wHist G (q5, b7r) v8.1 v8.2.1 v8.2.2) ++ ((wSt G (q9, b11r) v12.1 v12.2.1 v12.2.2.1 v12.2.2.2) ++ (wPad G (q13, b15r) v16.1 v16.2))))) (pc2 := 53) S (show meth.name = "<init>" from hname) gf_X8_33 pf_X8_4 rfl 0 rfl rfl rfl (Nat.le_of_ble_eq_true rfl) rfl dX8_init_50 rfl ?_
  refine v_aload_n (pc2 := 54) S 0 dX8_init_53 rfl rfl rfl ?_
  refine v_new (a := 0) (ci := 6) (N := 3) (C := RX6) (T := TX6) (fs := [.int 0, .int 0, .int 0]) (pc2 := 57) S tyX6 tyX6_ok rfl inX6 u_195 u_196 u_28 (fun j hj => by match j, hj with | 0, _ => rfl | 1, _ => rfl | 2, _ => rfl) (Nat.le_of_ble_eq_true rfl) (Nat.le_of_ble_eq_true rfl) dX8_init_54 rfl (fun q17 => ?_)
  refine v_to (([(a0, .inr (8, [.ref q1, .ref q5, .ref q9, .int (0 : Int32), .ref q13, .null, .null]))] : va_W) ++ ((wSt G (q1, b3r) v4.1 v4.2.1 v4.2.2.1 v4.2.2.2) ++ ((wHist G (q5, b7r) v8.1 v8.2.1 v8.2.2) ++ ((wSt G (q9, b11r) v12.1 v12.2.1 v12.2.2.1 v12.2.2.2) ++ ((wPad G (q13, b15r) v16.1 v16.2) ++ (([(q17, .inr (6, [.int 0, .int 0, .int 0]))] : va_W))))))) 57 [(0, .ref a0)] _ [.ref q17, .ref a0] rfl rfl rfl rfl ?_
  refine v_dup (pc2 := 58) S dX8_init_57 rfl rfl ?_
  refine v_callIN (rt2 := none) (pc2 := 61) (As := []) (rest := [.ref q17, .ref a0]) S (c_X6_init l G q17 _ hw) mf_X6_init u_197 u_198 rfl rfl rfl ⟨rfl, rfl⟩ ⟨Nat.le_of_ble_eq_true rfl, Nat.le_of_ble_eq_true rfl⟩ ⟨Nat.le_of_ble_eq_true rfl, Nat.le_of_ble_eq_true rfl⟩ (Nat.le_of_ble_eq_true rfl) dX8_init_58 (frM (([(a0, .inr (8, [.ref q1, .ref q5, .ref q9, .int (0 : Int32), .ref q13, .null, .null]))] : va_W) ++ ((wSt G (q1, b3r) v4.1 v4.2.1 v4.2.2.1 v4.2.2.2) ++ ((wHist G (q5, b7r) v8.1 v8.2.1 v8.2.2) ++ ((wSt G (q9, b11r) v12.1 v12.2.1 v12.2.2.1 v12.2.2.2) ++ (wPad G (q13, b15r) v16.1 v16.2))))) [(q17, .inr (6, [.int 0, .int 0, .int 0]))] []) rfl (pv (fun u18 hw => ?_))
  obtain ⟨b19, v20⟩ := u18
  obtain ⟨hq, hw⟩ := hw
  have hq : b19 = q17 := hq
  subst b19
  refine v_to (([(a0, .inr (8, [.ref q1, .ref q5, .ref q9, .int (0 : Int32), .ref q13, .null, .null]))] : va_W) ++ ((wSt G (q1, b3r) v4.1 v4.2.1 v4.2.2.1 v4.2.2.2) ++ ((wHist G (q5, b7r) v8.1 v8.2.1 v8.2.2) ++ ((wSt G (q9, b11r) v12.1 v12.2.1 v12.2.2.1 v12.2.2.2) ++ ((wPad G (q13, b15r) v16.1 v16.2) ++ (wStop G q17 v20.1 v20.2.1 v20.2.2)))))) 61 [(0, .ref a0)] _ [.ref q17, .ref a0] rfl rfl rfl rfl ?_
  refine v_putF (ws2 := ([(a0, .inr (8, [.ref q1, .ref q5, .ref q9, .int (0 : Int32), .ref q13, .ref q17, .null]))] : va_W) ++ ((wSt G (q1, b3r) v4.1 v4.2.1 v4.2.2.1 v4.2.2.2) ++ ((wHist G (q5, b7r) v8.1 v8.2.1 v8.2.2) ++ ((wSt G (q9, b11r) v12.1 v12.2.1 v12.2.2.1 v12.2.2.2) ++ ((wPad G (q13, b15r) v16.1 v16.2) ++ (wStop G q17 v20.1 v20.2.1 v20.2.2)))))) (pc2 := 64) S (show meth.name = "<init>" from hname) gf_X8_40 pf_X8_5 rfl 0 rfl rfl rfl (Nat.le_of_ble_eq_true rfl) rfl dX8_init_61 rfl ?_
  refine v_aload_n (pc2 := 65) S 0 dX8_init_64 rfl rfl rfl ?_
  refine v_new (a := 0) (ci := 7) (N := 3) (C := RX7) (T := TX7) (fs := [.null, .null, .int 0]) (pc2 := 68) S tyX7 tyX7_ok rfl inX7 u_214 u_215 u_29 (fun j hj => by match j, hj with | 0, _ => rfl | 1, _ => rfl | 2, _ => rfl) (Nat.le_of_ble_eq_true rfl) (Nat.le_of_ble_eq_true rfl) dX8_init_65 rfl (fun q21 => ?_)
  refine v_to (([(a0, .inr (8, [.ref q1, .ref q5, .ref q9, .int (0 : Int32), .ref q13, .ref q17, .null]))] : va_W) ++ ((wSt G (q1, b3r) v4.1 v4.2.1 v4.2.2.1 v4.2.2.2) ++ ((wHist G (q5, b7r) v8.1 v8.2.1 v8.2.2) ++ ((wSt G (q9, b11r) v12.1 v12.2.1 v12.2.2.1 v12.2.2.2) ++ ((wPad G (q13, b15r) v16.1 v16.2) ++ ((wStop G q17 v20.1 v20.2.1 v20.2.2) ++ (([(q21, .inr (7, [.null, .null, .int 0]))] : va_W)))))))) 68 [(0, .ref a0)] _ [.ref q21, .ref a0] rfl rfl rfl rfl ?_
  refine v_dup (pc2 := 69) S dX8_init_68 rfl rfl ?_
  refine v_callIN (rt2 := none) (pc2 := 72) (As := []) (rest := [.ref q21, .ref a0]) S (c_X7_init l G q21 _ hw) mf_X7_init u_216 u_217 rfl rfl rfl ⟨rfl, rfl⟩ ⟨Nat.le_of_ble_eq_true rfl, Nat.le_of_ble_eq_true rfl⟩ ⟨Nat.le_of_ble_eq_true rfl, Nat.le_of_ble_eq_true rfl⟩ (Nat.le_of_ble_eq_true rfl) dX8_init_69 (frM (([(a0, .inr (8, [.ref q1, .ref q5, .ref q9, .int (0 : Int32), .ref q13, .ref q17, .null]))] : va_W) ++ ((wSt G (q1, b3r) v4.1 v4.2.1 v4.2.2.1 v4.2.2.2) ++ ((wHist G (q5, b7r) v8.1 v8.2.1 v8.2.2) ++ ((wSt G (q9, b11r) v12.1 v12.2.1 v12.2.2.1 v12.2.2.2) ++ ((wPad G (q13, b15r) v16.1 v16.2) ++ (wStop G q17 v20.1 v20.2.1 v20.2.2)))))) [(q21, .inr (7, [.null, .null, .int 0]))] []) rfl (pv (fun u22 hw => ?_))
  obtain ⟨⟨b23, b23r⟩, v24⟩ := u22
  obtain ⟨hq, hw⟩ := hw
  have hq : b23 = q21 := hq
  subst b23
  refine v_to (([(a0, .inr (8, [.ref q1, .ref q5, .ref q9, .int (0 : Int32), .ref q13, .ref q17, .null]))] : va_W) ++ ((wSt G (q1, b3r) v4.1 v4.2.1 v4.2.2.1 v4.2.2.2) ++ ((wHist G (q5, b7r) v8.1 v8.2.1 v8.2.2) ++ ((wSt G (q9, b11r) v12.1 v12.2.1 v12.2.2.1 v12.2.2.2) ++ ((wPad G (q13, b15r) v16.1 v16.2) ++ ((wStop G q17 v20.1 v20.2.1 v20.2.2) ++ (wWays G (q21, b23r) v24.1 v24.2.1 v24.2.2))))))) 72 [(0, .ref a0)] _ [.ref q21, .ref a0] rfl rfl rfl rfl ?_
  refine v_putF (ws2 := ([(a0, .inr (8, [.ref q1, .ref q5, .ref q9, .int (0 : Int32), .ref q13, .ref q17, .ref q21]))] : va_W) ++ ((wSt G (q1, b3r) v4.1 v4.2.1 v4.2.2.1 v4.2.2.2) ++ ((wHist G (q5, b7r) v8.1 v8.2.1 v8.2.2) ++ ((wSt G (q9, b11r) v12.1 v12.2.1 v12.2.2.1 v12.2.2.2) ++ ((wPad G (q13, b15r) v16.1 v16.2) ++ ((wStop G q17 v20.1 v20.2.1 v20.2.2) ++ (wWays G (q21, b23r) v24.1 v24.2.1 v24.2.2))))))) (pc2 := 75) S (show meth.name = "<init>" from hname) gf_X8_47 pf_X8_6 rfl 0 rfl rfl rfl (Nat.le_of_ble_eq_true rfl) rfl dX8_init_72 rfl ?_
  refine v_perm _ (gperm [[(a0, .inr (8, [.ref q1, .ref q5, .ref q9, .int (0 : Int32), .ref q13, .ref q17, .ref q21]))], wSt G (q1, b3r) v4.1 v4.2.1 v4.2.2.1 v4.2.2.2, wHist G (q5, b7r) v8.1 v8.2.1 v8.2.2, wSt G (q9, b11r) v12.1 v12.2.1 v12.2.2.1 v12.2.2.2, wPad G (q13, b15r) v16.1 v16.2, wStop G q17 v20.1 v20.2.1 v20.2.2, wWays G (q21, b23r) v24.1 v24.2.1 v24.2.2] [0, 4, 5, 2, 1, 3, 6] rfl) ?_
  refine v_to (wCD G (a0, (q1, b3r), (q5, b7r), (q9, b11r), (q13, b15r), q17, (q21, b23r)) v4 v8 v12 (0 : Int32) v16 v20 v24) 75 [(0, .ref a0)] _ [] rfl rfl rfl rfl ?_
  exact v_vret S ⟨((a0, (q1, b3r), (q5, b7r), (q9, b11r), (q13, b15r), q17, (q21, b23r)), (v4, v8, v12, (0 : Int32), v16, v20, v24)), rfl, rfl, rfl, hw⟩ dX8_init_75
set_option maxHeartbeats 4000000 in
set_option maxRecDepth 100000 in
theorem c_X8_open (l : Launch) (G : GG) (a0 : CDA) (v0 : CDV) (i0 : Int32) (Q : Int32 → CDV → Prop) (hw : wp_X8_open v0 i0 Q) : Con l G yX8_open cX8_open 2 (some .int) { frames := 5, cells := 0, slots := 0, locals := 123 } [.ref a0.1, .int i0] (wCD G a0 v0.1 v0.2.1 v0.2.2.1 v0.2.2.2.1 v0.2.2.2.2.1 v0.2.2.2.2.2.1 v0.2.2.2.2.2.2) (PI (fun u : CDV => wCD G a0 u.1 u.2.1 u.2.2.1 u.2.2.2.1 u.2.2.2.2.1 u.2.2.2.2.2.1 u.2.2.2.2.2.2) Q) 0 0 := by
  refine con_of RX8 rfl (by decide) [(0, .ref a0.1), (1, .int i0)] rfl (Nat.le_of_ble_eq_true rfl) ?_
  intro p e s m args below meth c S hname
  refine v_iload_n (pc2 := 1) S 1 dX8_open_0 rfl rfl rfl ?_
  refine v_callS (pc2 := 4) (As := [.int i0]) (rest := []) S (c_X8_isDoor l G i0 _ hw) mf_X8_isDoor u_488 u_489 rfl rfl ⟨rfl, rfl⟩ ⟨Nat.le_of_ble_eq_true rfl, Nat.le_of_ble_eq_true rfl⟩ ⟨Nat.le_of_ble_eq_true rfl, Nat.le_of_ble_eq_true rfl⟩ (Nat.le_of_ble_eq_true rfl) dX8_open_1 (frM [] [] _) rfl (pb (fun r1 u2 br1 hw => ?_))
  refine v_to (wCD G a0 v0.1 v0.2.1 v0.2.2.1 v0.2.2.2.1 v0.2.2.2.2.1 v0.2.2.2.2.2.1 v0.2.2.2.2.2.2) 4 [(0, .ref a0.1), (1, .int i0)] _ [.int r1] rfl rfl rfl rfl ?_
  refine v_if_ne (pc2 := 7) (tgt := 9) S dX8_open_4 (by decide) rfl (fun c3 => ?_) (fun c3 => ?_)
  · have hw := hw.1 c3
    refine v_aload_n (pc2 := 10) S 0 dX8_open_9 rfl rfl rfl ?_
    refine v_get (v := .ref a0.2.2.1.1) (pc2 := 13) S gf_X8_19 0 rfl rfl dX8_open_10 rfl ?_
    refine v_aload_n (pc2 := 14) S 0 dX8_open_13 rfl rfl rfl ?_
    refine v_get (v := .ref a0.2.1.1) (pc2 := 17) S gf_X8_12 0 rfl rfl dX8_open_14 rfl ?_
    refine v_callV (pc2 := 20) (As := [.ref a0.2.1.1]) (rest := []) S (c_X2_record l G a0.2.2.1 a0.2.1 v0.2.1 v0.1 _ hw) mf_X2_record u_469 u_470 u_471 0 2 rfl rfl rfl rfl ⟨rfl, rfl⟩ ⟨Nat.le_of_ble_eq_true rfl, Nat.le_of_ble_eq_true rfl⟩ ⟨Nat.le_of_ble_eq_true rfl, Nat.le_of_ble_eq_true rfl⟩ (Nat.le_of_ble_eq_true rfl) dX8_open_17 (frM (([(a0.1, .inr (8, [.ref a0.2.1.1, .ref a0.2.2.1.1, .ref a0.2.2.2.1.1, .int v0.2.2.2.1, .ref a0.2.2.2.2.1.1, .ref a0.2.2.2.2.2.1, .ref a0.2.2.2.2.2.2.1]))] : va_W) ++ ((wPad G a0.2.2.2.2.1 v0.2.2.2.2.1.1 v0.2.2.2.2.1.2) ++ (wStop G a0.2.2.2.2.2.1 v0.2.2.2.2.2.1.1 v0.2.2.2.2.2.1.2.1 v0.2.2.2.2.2.1.2.2))) (wHist G a0.2.2.1 v0.2.1.1 v0.2.1.2.1 v0.2.1.2.2 ++ wSt G a0.2.1 v0.1.1 v0.1.2.1 v0.1.2.2.1 v0.1.2.2.2) ((wSt G a0.2.2.2.1 v0.2.2.1.1 v0.2.2.1.2.1 v0.2.2.1.2.2.1 v0.2.2.1.2.2.2) ++ (wWays G a0.2.2.2.2.2.2 v0.2.2.2.2.2.2.1 v0.2.2.2.2.2.2.2.1 v0.2.2.2.2.2.2.2.2))) rfl (pv (fun u5 hw => ?_))
    refine v_to (wCD G a0 v0.1 u5 v0.2.2.1 v0.2.2.2.1 v0.2.2.2.2.1 v0.2.2.2.2.2.1 v0.2.2.2.2.2.2) 20 [(0, .ref a0.1), (1, .int i0)] _ [] rfl rfl rfl rfl ?_
    refine v_aload_n (pc2 := 21) S 0 dX8_open_20 rfl rfl rfl ?_
    refine v_get (v := .ref a0.2.1.1) (pc2 := 24) S gf_X8_12 0 rfl rfl dX8_open_21 rfl ?_
    refine v_iload_n (pc2 := 25) S 1 dX8_open_24 rfl rfl rfl ?_
    refine v_callV (pc2 := 28) (As := [.int i0]) (rest := []) S (c_X5_servantOpens l G a0.2.1 v0.1 i0 _ hw) mf_X5_servantOpens u_547 u_548 u_549 0 5 rfl rfl rfl rfl ⟨rfl, rfl⟩ ⟨Nat.le_of_ble_eq_true rfl, Nat.le_of_ble_eq_true rfl⟩ ⟨Nat.le_of_ble_eq_true rfl, Nat.le_of_ble_eq_true rfl⟩ (Nat.le_of_ble_eq_true rfl) dX8_open_25 (frM (([(a0.1, .inr (8, [.ref a0.2.1.1, .ref a0.2.2.1.1, .ref a0.2.2.2.1.1, .int v0.2.2.2.1, .ref a0.2.2.2.2.1.1, .ref a0.2.2.2.2.2.1, .ref a0.2.2.2.2.2.2.1]))] : va_W) ++ ((wPad G a0.2.2.2.2.1 v0.2.2.2.2.1.1 v0.2.2.2.2.1.2) ++ ((wStop G a0.2.2.2.2.2.1 v0.2.2.2.2.2.1.1 v0.2.2.2.2.2.1.2.1 v0.2.2.2.2.2.1.2.2) ++ (wHist G a0.2.2.1 u5.1 u5.2.1 u5.2.2)))) (wSt G a0.2.1 v0.1.1 v0.1.2.1 v0.1.2.2.1 v0.1.2.2.2) ((wSt G a0.2.2.2.1 v0.2.2.1.1 v0.2.2.1.2.1 v0.2.2.1.2.2.1 v0.2.2.1.2.2.2) ++ (wWays G a0.2.2.2.2.2.2 v0.2.2.2.2.2.2.1 v0.2.2.2.2.2.2.2.1 v0.2.2.2.2.2.2.2.2))) rfl (pi (fun r6 u7 hw => ?_))
    refine v_to (wCD G a0 u7 u5 v0.2.2.1 v0.2.2.2.1 v0.2.2.2.2.1 v0.2.2.2.2.2.1 v0.2.2.2.2.2.2) 28 [(0, .ref a0.1), (1, .int i0)] _ [.int r6] rfl rfl rfl rfl ?_
    exact v_iret S ⟨r6, (u7, u5, v0.2.2.1, v0.2.2.2.1, v0.2.2.2.2.1, v0.2.2.2.2.2.1, v0.2.2.2.2.2.2), rfl, rfl, hw⟩ dX8_open_28
  · have hw := hw.2 c3
    refine v_iconst (v := -1) (pc2 := 8) S dX8_open_7 (by decide) rfl ?_
    exact v_iret S ⟨(-1 : Int32), v0, rfl, rfl, hw⟩ dX8_open_8
set_option maxHeartbeats 4000000 in
set_option maxRecDepth 100000 in
theorem c_X8_shut (l : Launch) (G : GG) (a0 : CDA) (v0 : CDV) (i0 : Int32) (Q : Int32 → CDV → Prop) (hw : wp_X8_shut v0 i0 Q) : Con l G yX8_shut cX8_shut 2 (some .int) { frames := 4, cells := 0, slots := 0, locals := 123 } [.ref a0.1, .int i0] (wCD G a0 v0.1 v0.2.1 v0.2.2.1 v0.2.2.2.1 v0.2.2.2.2.1 v0.2.2.2.2.2.1 v0.2.2.2.2.2.2) (PI (fun u : CDV => wCD G a0 u.1 u.2.1 u.2.2.1 u.2.2.2.1 u.2.2.2.2.1 u.2.2.2.2.2.1 u.2.2.2.2.2.2) Q) 0 0 := by
  refine con_of RX8 rfl (by decide) [(0, .ref a0.1), (1, .int i0)] rfl (Nat.le_of_ble_eq_true rfl) ?_
  intro p e s m args below meth c S hname
  refine v_iload_n (pc2 := 1) S 1 dX8_shut_0 rfl rfl rfl ?_
  refine v_callS (pc2 := 4) (As := [.int i0]) (rest := []) S (c_X8_isDoor l G i0 _ hw) mf_X8_isDoor u_488 u_489 rfl rfl ⟨rfl, rfl⟩ ⟨Nat.le_of_ble_eq_true rfl, Nat.le_of_ble_eq_true rfl⟩ ⟨Nat.le_of_ble_eq_true rfl, Nat.le_of_ble_eq_true rfl⟩ (Nat.le_of_ble_eq_true rfl) dX8_shut_1 (frM [] [] _) rfl (pb (fun r1 u2 br1 hw => ?_))
  refine v_to (wCD G a0 v0.1 v0.2.1 v0.2.2.1 v0.2.2.2.1 v0.2.2.2.2.1 v0.2.2.2.2.2.1 v0.2.2.2.2.2.2) 4 [(0, .ref a0.1), (1, .int i0)] _ [.int r1] rfl rfl rfl rfl ?_
  refine v_if_ne (pc2 := 7) (tgt := 9) S dX8_shut_4 (by decide) rfl (fun c3 => ?_) (fun c3 => ?_)
  · have hw := hw.1 c3
    refine v_aload_n (pc2 := 10) S 0 dX8_shut_9 rfl rfl rfl ?_
    refine v_get (v := .ref a0.2.2.1.1) (pc2 := 13) S gf_X8_19 0 rfl rfl dX8_shut_10 rfl ?_
    refine v_aload_n (pc2 := 14) S 0 dX8_shut_13 rfl rfl rfl ?_
    refine v_get (v := .ref a0.2.1.1) (pc2 := 17) S gf_X8_12 0 rfl rfl dX8_shut_14 rfl ?_
    refine v_callV (pc2 := 20) (As := [.ref a0.2.1.1]) (rest := []) S (c_X2_record l G a0.2.2.1 a0.2.1 v0.2.1 v0.1 _ hw) mf_X2_record u_469 u_470 u_471 0 2 rfl rfl rfl rfl ⟨rfl, rfl⟩ ⟨Nat.le_of_ble_eq_true rfl, Nat.le_of_ble_eq_true rfl⟩ ⟨Nat.le_of_ble_eq_true rfl, Nat.le_of_ble_eq_true rfl⟩ (Nat.le_of_ble_eq_true rfl) dX8_shut_17 (frM (([(a0.1, .inr (8, [.ref a0.2.1.1, .ref a0.2.2.1.1, .ref a0.2.2.2.1.1, .int v0.2.2.2.1, .ref a0.2.2.2.2.1.1, .ref a0.2.2.2.2.2.1, .ref a0.2.2.2.2.2.2.1]))] : va_W) ++ ((wPad G a0.2.2.2.2.1 v0.2.2.2.2.1.1 v0.2.2.2.2.1.2) ++ (wStop G a0.2.2.2.2.2.1 v0.2.2.2.2.2.1.1 v0.2.2.2.2.2.1.2.1 v0.2.2.2.2.2.1.2.2))) (wHist G a0.2.2.1 v0.2.1.1 v0.2.1.2.1 v0.2.1.2.2 ++ wSt G a0.2.1 v0.1.1 v0.1.2.1 v0.1.2.2.1 v0.1.2.2.2) ((wSt G a0.2.2.2.1 v0.2.2.1.1 v0.2.2.1.2.1 v0.2.2.1.2.2.1 v0.2.2.1.2.2.2) ++ (wWays G a0.2.2.2.2.2.2 v0.2.2.2.2.2.2.1 v0.2.2.2.2.2.2.2.1 v0.2.2.2.2.2.2.2.2))) rfl (pv (fun u5 hw => ?_))
    refine v_to (wCD G a0 v0.1 u5 v0.2.2.1 v0.2.2.2.1 v0.2.2.2.2.1 v0.2.2.2.2.2.1 v0.2.2.2.2.2.2) 20 [(0, .ref a0.1), (1, .int i0)] _ [] rfl rfl rfl rfl ?_
    refine v_aload_n (pc2 := 21) S 0 dX8_shut_20 rfl rfl rfl ?_
    refine v_get (v := .ref a0.2.1.1) (pc2 := 24) S gf_X8_12 0 rfl rfl dX8_shut_21 rfl ?_
    refine v_iload_n (pc2 := 25) S 1 dX8_shut_24 rfl rfl rfl ?_
    refine v_callV (pc2 := 28) (As := [.int i0]) (rest := []) S (c_X5_servantShuts l G a0.2.1 v0.1 i0 _ hw) mf_X5_servantShuts u_576 u_577 u_578 0 5 rfl rfl rfl rfl ⟨rfl, rfl⟩ ⟨Nat.le_of_ble_eq_true rfl, Nat.le_of_ble_eq_true rfl⟩ ⟨Nat.le_of_ble_eq_true rfl, Nat.le_of_ble_eq_true rfl⟩ (Nat.le_of_ble_eq_true rfl) dX8_shut_25 (frM (([(a0.1, .inr (8, [.ref a0.2.1.1, .ref a0.2.2.1.1, .ref a0.2.2.2.1.1, .int v0.2.2.2.1, .ref a0.2.2.2.2.1.1, .ref a0.2.2.2.2.2.1, .ref a0.2.2.2.2.2.2.1]))] : va_W) ++ ((wPad G a0.2.2.2.2.1 v0.2.2.2.2.1.1 v0.2.2.2.2.1.2) ++ ((wStop G a0.2.2.2.2.2.1 v0.2.2.2.2.2.1.1 v0.2.2.2.2.2.1.2.1 v0.2.2.2.2.2.1.2.2) ++ (wHist G a0.2.2.1 u5.1 u5.2.1 u5.2.2)))) (wSt G a0.2.1 v0.1.1 v0.1.2.1 v0.1.2.2.1 v0.1.2.2.2) ((wSt G a0.2.2.2.1 v0.2.2.1.1 v0.2.2.1.2.1 v0.2.2.1.2.2.1 v0.2.2.1.2.2.2) ++ (wWays G a0.2.2.2.2.2.2 v0.2.2.2.2.2.2.1 v0.2.2.2.2.2.2.2.1 v0.2.2.2.2.2.2.2.2))) rfl (pi (fun r6 u7 hw => ?_))
    refine v_to (wCD G a0 u7 u5 v0.2.2.1 v0.2.2.2.1 v0.2.2.2.2.1 v0.2.2.2.2.2.1 v0.2.2.2.2.2.2) 28 [(0, .ref a0.1), (1, .int i0)] _ [.int r6] rfl rfl rfl rfl ?_
    exact v_iret S ⟨r6, (u7, u5, v0.2.2.1, v0.2.2.2.1, v0.2.2.2.2.1, v0.2.2.2.2.2.1, v0.2.2.2.2.2.2), rfl, rfl, hw⟩ dX8_shut_28
  · have hw := hw.2 c3
    refine v_iconst (v := -1) (pc2 := 8) S dX8_shut_7 (by decide) rfl ?_
    exact v_iret S ⟨(-1 : Int32), v0, rfl, rfl, hw⟩ dX8_shut_8
set_option maxHeartbeats 4000000 in
set_option maxRecDepth 100000 in
theorem c_X8_cord (l : Launch) (G : GG) (a0 : CDA) (v0 : CDV) (i0 : Int32) (i1 : Int32) (i2 : Int32) (Q : Int32 → CDV → Prop) (hw : wp_X8_cord v0 i0 i1 i2 Q) : Con l G yX8_cord cX8_cord 4 (some .int) { frames := 4, cells := 0, slots := 0, locals := 123 } [.ref a0.1, .int i0, .int i1, .int i2] (wCD G a0 v0.1 v0.2.1 v0.2.2.1 v0.2.2.2.1 v0.2.2.2.2.1 v0.2.2.2.2.2.1 v0.2.2.2.2.2.2) (PI (fun u : CDV => wCD G a0 u.1 u.2.1 u.2.2.1 u.2.2.2.1 u.2.2.2.2.1 u.2.2.2.2.2.1 u.2.2.2.2.2.2) Q) 0 0 := by
  refine con_of RX8 rfl (by decide) [(0, .ref a0.1), (1, .int i0), (2, .int i1), (3, .int i2)] rfl (Nat.le_of_ble_eq_true rfl) ?_
  intro p e s m args below meth c S hname
  have B59 : ∀ (x1 : Int32) (x2 : Int32) (x3 : Int32) (w0 : CDV), wp_X8_cord_B59 x1 x2 x3 w0 Q → V p l e { frames := 4, cells := 0, slots := 0, locals := 123 } s m args below meth c G (va_A (wCD G a0 v0.1 v0.2.1 v0.2.2.1 v0.2.2.2.1 v0.2.2.2.2.1 v0.2.2.2.2.2.1 v0.2.2.2.2.2.2) s.heap.size) 4 0 0 (MQ below (EQ G (wCD G a0 v0.1 v0.2.1 v0.2.2.1 v0.2.2.2.1 v0.2.2.2.2.1 v0.2.2.2.2.2.1 v0.2.2.2.2.2.2) s.heap.size (PI (fun u : CDV => wCD G a0 u.1 u.2.1 u.2.2.1 u.2.2.2.1 u.2.2.2.2.1 u.2.2.2.2.2.1 u.2.2.2.2.2.2) Q)) args s 0 0 (va_A (wCD G a0 v0.1 v0.2.1 v0.2.2.1 v0.2.2.2.1 v0.2.2.2.2.1 v0.2.2.2.2.2.1 v0.2.2.2.2.2.2) s.heap.size)) (wCD G a0 w0.1 w0.2.1 w0.2.2.1 w0.2.2.2.1 w0.2.2.2.2.1 w0.2.2.2.2.2.1 w0.2.2.2.2.2.2) 59 [(0, .ref a0.1), (1, .int x1), (2, .int x2), (3, .int x3)] [] := by
    intro x1 x2 x3 w0 hw
    refine v_aload_n (pc2 := 60) S 0 dX8_cord_59 rfl rfl rfl ?_
    refine v_get (v := .ref a0.2.2.1.1) (pc2 := 63) S gf_X8_19 0 rfl rfl dX8_cord_60 rfl ?_
    refine v_aload_n (pc2 := 64) S 0 dX8_cord_63 rfl rfl rfl ?_
    refine v_get (v := .ref a0.2.1.1) (pc2 := 67) S gf_X8_12 0 rfl rfl dX8_cord_64 rfl ?_
    refine v_callV (pc2 := 70) (As := [.ref a0.2.1.1]) (rest := []) S (c_X2_record l G a0.2.2.1 a0.2.1 w0.2.1 w0.1 _ hw) mf_X2_record u_469 u_470 u_471 0 2 rfl rfl rfl rfl ⟨rfl, rfl⟩ ⟨Nat.le_of_ble_eq_true rfl, Nat.le_of_ble_eq_true rfl⟩ ⟨Nat.le_of_ble_eq_true rfl, Nat.le_of_ble_eq_true rfl⟩ (Nat.le_of_ble_eq_true rfl) dX8_cord_67 (frM (([(a0.1, .inr (8, [.ref a0.2.1.1, .ref a0.2.2.1.1, .ref a0.2.2.2.1.1, .int w0.2.2.2.1, .ref a0.2.2.2.2.1.1, .ref a0.2.2.2.2.2.1, .ref a0.2.2.2.2.2.2.1]))] : va_W) ++ ((wPad G a0.2.2.2.2.1 w0.2.2.2.2.1.1 w0.2.2.2.2.1.2) ++ (wStop G a0.2.2.2.2.2.1 w0.2.2.2.2.2.1.1 w0.2.2.2.2.2.1.2.1 w0.2.2.2.2.2.1.2.2))) (wHist G a0.2.2.1 w0.2.1.1 w0.2.1.2.1 w0.2.1.2.2 ++ wSt G a0.2.1 w0.1.1 w0.1.2.1 w0.1.2.2.1 w0.1.2.2.2) ((wSt G a0.2.2.2.1 w0.2.2.1.1 w0.2.2.1.2.1 w0.2.2.1.2.2.1 w0.2.2.1.2.2.2) ++ (wWays G a0.2.2.2.2.2.2 w0.2.2.2.2.2.2.1 w0.2.2.2.2.2.2.2.1 w0.2.2.2.2.2.2.2.2))) rfl (pv (fun u10 hw => ?_))
    refine v_to (wCD G a0 w0.1 u10 w0.2.2.1 w0.2.2.2.1 w0.2.2.2.2.1 w0.2.2.2.2.2.1 w0.2.2.2.2.2.2) 70 [(0, .ref a0.1), (1, .int x1), (2, .int x2), (3, .int x3)] _ [] rfl rfl rfl rfl ?_
    refine v_aload_n (pc2 := 71) S 0 dX8_cord_70 rfl rfl rfl ?_
    refine v_get (v := .ref a0.2.1.1) (pc2 := 74) S gf_X8_12 0 rfl rfl dX8_cord_71 rfl ?_
    refine v_iload_n (pc2 := 75) S 1 dX8_cord_74 rfl rfl rfl ?_
    refine v_iload_n (pc2 := 76) S 2 dX8_cord_75 rfl rfl rfl ?_
    refine v_iload_n (pc2 := 77) S 3 dX8_cord_76 rfl rfl rfl ?_
    refine v_callV (pc2 := 80) (As := [.int x1, .int x2, .int x3]) (rest := []) S (c_X5_laysCord l G a0.2.1 w0.1 x1 x2 x3 _ hw) mf_X5_laysCord u_597 u_598 u_599 0 5 rfl rfl rfl rfl ⟨rfl, rfl⟩ ⟨Nat.le_of_ble_eq_true rfl, Nat.le_of_ble_eq_true rfl⟩ ⟨Nat.le_of_ble_eq_true rfl, Nat.le_of_ble_eq_true rfl⟩ (Nat.le_of_ble_eq_true rfl) dX8_cord_77 (frM (([(a0.1, .inr (8, [.ref a0.2.1.1, .ref a0.2.2.1.1, .ref a0.2.2.2.1.1, .int w0.2.2.2.1, .ref a0.2.2.2.2.1.1, .ref a0.2.2.2.2.2.1, .ref a0.2.2.2.2.2.2.1]))] : va_W) ++ ((wPad G a0.2.2.2.2.1 w0.2.2.2.2.1.1 w0.2.2.2.2.1.2) ++ ((wStop G a0.2.2.2.2.2.1 w0.2.2.2.2.2.1.1 w0.2.2.2.2.2.1.2.1 w0.2.2.2.2.2.1.2.2) ++ (wHist G a0.2.2.1 u10.1 u10.2.1 u10.2.2)))) (wSt G a0.2.1 w0.1.1 w0.1.2.1 w0.1.2.2.1 w0.1.2.2.2) ((wSt G a0.2.2.2.1 w0.2.2.1.1 w0.2.2.1.2.1 w0.2.2.1.2.2.1 w0.2.2.1.2.2.2) ++ (wWays G a0.2.2.2.2.2.2 w0.2.2.2.2.2.2.1 w0.2.2.2.2.2.2.2.1 w0.2.2.2.2.2.2.2.2))) rfl (pi (fun r11 u12 hw => ?_))
    refine v_to (wCD G a0 u12 u10 w0.2.2.1 w0.2.2.2.1 w0.2.2.2.2.1 w0.2.2.2.2.2.1 w0.2.2.2.2.2.2) 80 [(0, .ref a0.1), (1, .int x1), (2, .int x2), (3, .int x3)] _ [.int r11] rfl rfl rfl rfl ?_
    exact v_iret S ⟨r11, (u12, u10, w0.2.2.1, w0.2.2.2.1, w0.2.2.2.2.1, w0.2.2.2.2.2.1, w0.2.2.2.2.2.2), rfl, rfl, hw⟩ dX8_cord_80
  have B51 : ∀ (x1 : Int32) (x2 : Int32) (x3 : Int32) (t0 : Int32) (t2 : Int32) (t3 : Int32) (w0 : CDV), wp_X8_cord_B51 x1 x2 x3 t0 t2 t3 w0 Q → V p l e { frames := 4, cells := 0, slots := 0, locals := 123 } s m args below meth c G (va_A (wCD G a0 v0.1 v0.2.1 v0.2.2.1 v0.2.2.2.1 v0.2.2.2.2.1 v0.2.2.2.2.2.1 v0.2.2.2.2.2.2) s.heap.size) 4 0 0 (MQ below (EQ G (wCD G a0 v0.1 v0.2.1 v0.2.2.1 v0.2.2.2.1 v0.2.2.2.2.1 v0.2.2.2.2.2.1 v0.2.2.2.2.2.2) s.heap.size (PI (fun u : CDV => wCD G a0 u.1 u.2.1 u.2.2.1 u.2.2.2.1 u.2.2.2.2.1 u.2.2.2.2.2.1 u.2.2.2.2.2.2) Q)) args s 0 0 (va_A (wCD G a0 v0.1 v0.2.1 v0.2.2.1 v0.2.2.2.1 v0.2.2.2.2.1 v0.2.2.2.2.2.1 v0.2.2.2.2.2.2) s.heap.size)) (wCD G a0 w0.1 w0.2.1 w0.2.2.1 w0.2.2.2.1 w0.2.2.2.2.1 w0.2.2.2.2.2.1 w0.2.2.2.2.2.2) 51 [(0, .ref a0.1), (1, .int x1), (2, .int x2), (3, .int x3)] [.int t3, .int t2, .ref a0.2.1.2.1.1, .int t0] := by
    intro x1 x2 x3 t0 t2 t3 w0 hw
    refine v_callV (pc2 := 54) (As := [.int t2, .int t3]) (rest := [.int t0]) S (c_X3_cordOf l G a0.2.1.2.1 w0.1.1 t2 t3 _ hw) mf_X3_cordOf u_494 u_495 u_496 0 3 rfl rfl rfl rfl ⟨rfl, rfl⟩ ⟨Nat.le_of_ble_eq_true rfl, Nat.le_of_ble_eq_true rfl⟩ ⟨Nat.le_of_ble_eq_true rfl, Nat.le_of_ble_eq_true rfl⟩ (Nat.le_of_ble_eq_true rfl) dX8_cord_51 (frM (([(a0.1, .inr (8, [.ref a0.2.1.1, .ref a0.2.2.1.1, .ref a0.2.2.2.1.1, .int w0.2.2.2.1, .ref a0.2.2.2.2.1.1, .ref a0.2.2.2.2.2.1, .ref a0.2.2.2.2.2.2.1]))] : va_W) ++ ((wPad G a0.2.2.2.2.1 w0.2.2.2.2.1.1 w0.2.2.2.2.1.2) ++ ((wStop G a0.2.2.2.2.2.1 w0.2.2.2.2.2.1.1 w0.2.2.2.2.2.1.2.1 w0.2.2.2.2.2.1.2.2) ++ ((wHist G a0.2.2.1 w0.2.1.1 w0.2.1.2.1 w0.2.1.2.2) ++ (([(a0.2.1.1, .inr (5, [.ref a0.2.1.2.1.1, .ref a0.2.1.2.2.1.1, .ref a0.2.1.2.2.2.1, .int w0.1.2.2.2]))] : va_W)))))) (wLoom G a0.2.1.2.1 w0.1.1.1 w0.1.1.2.1 w0.1.1.2.2.1 w0.1.1.2.2.2.1 w0.1.1.2.2.2.2.1 w0.1.1.2.2.2.2.2) ((wGu G a0.2.1.2.2.1 w0.1.2.1.1 w0.1.2.1.2.1 w0.1.2.1.2.2) ++ ((wAc G a0.2.1.2.2.2 w0.1.2.2.1.1 w0.1.2.2.1.2.1 w0.1.2.2.1.2.2.1 w0.1.2.2.1.2.2.2.1 w0.1.2.2.1.2.2.2.2.1 w0.1.2.2.1.2.2.2.2.2.1 w0.1.2.2.1.2.2.2.2.2.2) ++ ((wSt G a0.2.2.2.1 w0.2.2.1.1 w0.2.2.1.2.1 w0.2.2.1.2.2.1 w0.2.2.1.2.2.2) ++ (wWays G a0.2.2.2.2.2.2 w0.2.2.2.2.2.2.1 w0.2.2.2.2.2.2.2.1 w0.2.2.2.2.2.2.2.2))))) rfl (pi (fun r14 u15 hw => ?_))
    refine v_to (wCD G a0 w0.1 w0.2.1 w0.2.2.1 w0.2.2.2.1 w0.2.2.2.2.1 w0.2.2.2.2.2.1 w0.2.2.2.2.2.2) 54 [(0, .ref a0.1), (1, .int x1), (2, .int x2), (3, .int x3)] _ [.int r14, .int t0] rfl rfl rfl rfl ?_
    refine v_icmp_ne (pc2 := 57) (tgt := 59) S dX8_cord_54 (by decide) rfl (fun c16 => ?_) (fun c16 => ?_)
    · have hw := hw.1 c16
      exact B59 x1 x2 x3 w0 hw
    · have hw := hw.2 c16
      refine v_iconst (v := -1) (pc2 := 58) S dX8_cord_57 (by decide) rfl ?_
      exact v_iret S ⟨(-1 : Int32), w0, rfl, rfl, hw⟩ dX8_cord_58
  have B20 : ∀ (x1 : Int32) (x2 : Int32) (x3 : Int32) (w0 : CDV), wp_X8_cord_B20 x1 x2 x3 w0 Q → V p l e { frames := 4, cells := 0, slots := 0, locals := 123 } s m args below meth c G (va_A (wCD G a0 v0.1 v0.2.1 v0.2.2.1 v0.2.2.2.1 v0.2.2.2.2.1 v0.2.2.2.2.2.1 v0.2.2.2.2.2.2) s.heap.size) 4 0 0 (MQ below (EQ G (wCD G a0 v0.1 v0.2.1 v0.2.2.1 v0.2.2.2.1 v0.2.2.2.2.1 v0.2.2.2.2.2.1 v0.2.2.2.2.2.2) s.heap.size (PI (fun u : CDV => wCD G a0 u.1 u.2.1 u.2.2.1 u.2.2.2.1 u.2.2.2.2.1 u.2.2.2.2.2.1 u.2.2.2.2.2.2) Q)) args s 0 0 (va_A (wCD G a0 v0.1 v0.2.1 v0.2.2.1 v0.2.2.2.1 v0.2.2.2.2.1 v0.2.2.2.2.2.1 v0.2.2.2.2.2.2) s.heap.size)) (wCD G a0 w0.1 w0.2.1 w0.2.2.1 w0.2.2.2.1 w0.2.2.2.2.1 w0.2.2.2.2.2.1 w0.2.2.2.2.2.2) 20 [(0, .ref a0.1), (1, .int x1), (2, .int x2), (3, .int x3)] [] := by
    intro x1 x2 x3 w0 hw
    refine v_iload_n (pc2 := 21) S 3 dX8_cord_20 rfl rfl rfl ?_
    refine v_iload_n (pc2 := 22) S 1 dX8_cord_21 rfl rfl rfl ?_
    refine v_icmp_ne (pc2 := 25) (tgt := 27) S dX8_cord_22 (by decide) rfl (fun c7 => ?_) (fun c7 => ?_)
    · have hw := hw.1 c7
      refine v_iload_n (pc2 := 28) S 3 dX8_cord_27 rfl rfl rfl ?_
      refine v_bipush (v := 10) (pc2 := 30) S dX8_cord_28 (by decide) rfl ?_
      refine v_icmp_eq (pc2 := 33) (tgt := 59) S dX8_cord_30 (by decide) rfl (fun c8 => ?_) (fun c8 => ?_)
      · have hw := hw.1 c8
        exact B59 x1 x2 x3 w0 hw
      · have hw := hw.2 c8
        refine v_iload_n (pc2 := 34) S 3 dX8_cord_33 rfl rfl rfl ?_
        refine v_aload_n (pc2 := 35) S 0 dX8_cord_34 rfl rfl rfl ?_
        refine v_get (v := .ref a0.2.1.1) (pc2 := 38) S gf_X8_12 0 rfl rfl dX8_cord_35 rfl ?_
        refine v_getN (v := .ref a0.2.1.2.1.1) (pc2 := 41) S gf_X8_66 62 rfl rfl dX8_cord_38 rfl ?_
        refine v_iload_n (pc2 := 42) S 1 dX8_cord_41 rfl rfl rfl ?_
        refine v_iload_n (pc2 := 43) S 2 dX8_cord_42 rfl rfl rfl ?_
        refine v_if_ne (pc2 := 46) (tgt := 50) S dX8_cord_43 (by decide) rfl (fun c13 => ?_) (fun c13 => ?_)
        · have hw := hw.1 c13
          refine v_iconst (v := 0) (pc2 := 51) S dX8_cord_50 (by decide) rfl ?_
          exact B51 x1 x2 x3 x3 x1 (0 : Int32) w0 hw
        · have hw := hw.2 c13
          refine v_iconst (v := 1) (pc2 := 47) S dX8_cord_46 (by decide) rfl ?_
          refine v_goto (tgt := 51) S dX8_cord_47 (by decide) ?_
          exact B51 x1 x2 x3 x3 x1 (1 : Int32) w0 hw
    · have hw := hw.2 c7
      refine v_iconst (v := -1) (pc2 := 26) S dX8_cord_25 (by decide) rfl ?_
      exact v_iret S ⟨(-1 : Int32), w0, rfl, rfl, hw⟩ dX8_cord_26
  refine v_iload_n (pc2 := 1) S 1 dX8_cord_0 rfl rfl rfl ?_
  refine v_callS (pc2 := 4) (As := [.int i0]) (rest := []) S (c_X8_isDoor l G i0 _ hw) mf_X8_isDoor u_488 u_489 rfl rfl ⟨rfl, rfl⟩ ⟨Nat.le_of_ble_eq_true rfl, Nat.le_of_ble_eq_true rfl⟩ ⟨Nat.le_of_ble_eq_true rfl, Nat.le_of_ble_eq_true rfl⟩ (Nat.le_of_ble_eq_true rfl) dX8_cord_1 (frM [] [] _) rfl (pb (fun r1 u2 br1 hw => ?_))
  refine v_to (wCD G a0 v0.1 v0.2.1 v0.2.2.1 v0.2.2.2.1 v0.2.2.2.2.1 v0.2.2.2.2.2.1 v0.2.2.2.2.2.2) 4 [(0, .ref a0.1), (1, .int i0), (2, .int i1), (3, .int i2)] _ [.int r1] rfl rfl rfl rfl ?_
  refine v_if_eq (pc2 := 7) (tgt := 25) S dX8_cord_4 (by decide) rfl (fun c3 => ?_) (fun c3 => ?_)
  · have hw := hw.1 c3
    refine v_iconst (v := -1) (pc2 := 26) S dX8_cord_25 (by decide) rfl ?_
    exact v_iret S ⟨(-1 : Int32), v0, rfl, rfl, hw⟩ dX8_cord_26
  · have hw := hw.2 c3
    refine v_iload_n (pc2 := 8) S 3 dX8_cord_7 rfl rfl rfl ?_
    refine v_callS (pc2 := 11) (As := [.int i2]) (rest := []) S (c_X8_isDoor l G i2 _ hw) mf_X8_isDoor u_488 u_489 rfl rfl ⟨rfl, rfl⟩ ⟨Nat.le_of_ble_eq_true rfl, Nat.le_of_ble_eq_true rfl⟩ ⟨Nat.le_of_ble_eq_true rfl, Nat.le_of_ble_eq_true rfl⟩ (Nat.le_of_ble_eq_true rfl) dX8_cord_8 (frM [] [] _) rfl (pb (fun r4 u5 br4 hw => ?_))
    refine v_to (wCD G a0 v0.1 v0.2.1 v0.2.2.1 v0.2.2.2.1 v0.2.2.2.2.1 v0.2.2.2.2.2.1 v0.2.2.2.2.2.2) 11 [(0, .ref a0.1), (1, .int i0), (2, .int i1), (3, .int i2)] _ [.int r4] rfl rfl rfl rfl ?_
    refine v_if_ne (pc2 := 14) (tgt := 20) S dX8_cord_11 (by decide) rfl (fun c6 => ?_) (fun c6 => ?_)
    · have hw := hw.1 c6
      exact B20 i0 i1 i2 v0 hw
    · have hw := hw.2 c6
      refine v_iload_n (pc2 := 15) S 3 dX8_cord_14 rfl rfl rfl ?_
      refine v_bipush (v := 10) (pc2 := 17) S dX8_cord_15 (by decide) rfl ?_
      refine v_icmp_ne (pc2 := 20) (tgt := 25) S dX8_cord_17 (by decide) rfl (fun c17 => ?_) (fun c17 => ?_)
      · have hw := hw.1 c17
        refine v_iconst (v := -1) (pc2 := 26) S dX8_cord_25 (by decide) rfl ?_
        exact v_iret S ⟨(-1 : Int32), v0, rfl, rfl, hw⟩ dX8_cord_26
      · have hw := hw.2 c17
        exact B20 i0 i1 i2 v0 hw
set_option maxHeartbeats 4000000 in
set_option maxRecDepth 100000 in
theorem c_X8_join (l : Launch) (G : GG) (a0 : CDA) (v0 : CDV) (i0 : Int32) (i1 : Int32) (i2 : Int32) (Q : Int32 → CDV → Prop) (hw : wp_X8_join v0 i0 i1 i2 Q) : Con l G yX8_join cX8_join 5 (some .int) { frames := 4, cells := 0, slots := 0, locals := 123 } [.ref a0.1, .int i0, .int i1, .int i2] (wCD G a0 v0.1 v0.2.1 v0.2.2.1 v0.2.2.2.1 v0.2.2.2.2.1 v0.2.2.2.2.2.1 v0.2.2.2.2.2.2) (PI (fun u : CDV => wCD G a0 u.1 u.2.1 u.2.2.1 u.2.2.2.1 u.2.2.2.2.1 u.2.2.2.2.2.1 u.2.2.2.2.2.2) Q) 0 0 := by
  refine con_of RX8 rfl (by decide) [(0, .ref a0.1), (1, .int i0), (2, .int i1), (3, .int i2)] rfl (Nat.le_of_ble_eq_true rfl) ?_
  intro p e s m args below meth c S hname
  refine v_iload_n (pc2 := 1) S 1 dX8_join_0 rfl rfl rfl ?_
  refine v_callS (pc2 := 4) (As := [.int i0]) (rest := []) S (c_X8_isDoor l G i0 _ hw) mf_X8_isDoor u_488 u_489 rfl rfl ⟨rfl, rfl⟩ ⟨Nat.le_of_ble_eq_true rfl, Nat.le_of_ble_eq_true rfl⟩ ⟨Nat.le_of_ble_eq_true rfl, Nat.le_of_ble_eq_true rfl⟩ (Nat.le_of_ble_eq_true rfl) dX8_join_1 (frM [] [] _) rfl (pb (fun r1 u2 br1 hw => ?_))
  refine v_to (wCD G a0 v0.1 v0.2.1 v0.2.2.1 v0.2.2.2.1 v0.2.2.2.2.1 v0.2.2.2.2.2.1 v0.2.2.2.2.2.2) 4 [(0, .ref a0.1), (1, .int i0), (2, .int i1), (3, .int i2)] _ [.int r1] rfl rfl rfl rfl ?_
  refine v_if_eq (pc2 := 7) (tgt := 26) S dX8_join_4 (by decide) rfl (fun c3 => ?_) (fun c3 => ?_)
  · have hw := hw.1 c3
    refine v_iconst (v := -1) (pc2 := 27) S dX8_join_26 (by decide) rfl ?_
    exact v_iret S ⟨(-1 : Int32), v0, rfl, rfl, hw⟩ dX8_join_27
  · have hw := hw.2 c3
    refine v_iload_n (pc2 := 8) S 2 dX8_join_7 rfl rfl rfl ?_
    refine v_callS (pc2 := 11) (As := [.int i1]) (rest := []) S (c_X8_isHall l G i1 _ hw) mf_X8_isHall u_321 u_322 rfl rfl ⟨rfl, rfl⟩ ⟨Nat.le_of_ble_eq_true rfl, Nat.le_of_ble_eq_true rfl⟩ ⟨Nat.le_of_ble_eq_true rfl, Nat.le_of_ble_eq_true rfl⟩ (Nat.le_of_ble_eq_true rfl) dX8_join_8 (frM [] [] _) rfl (pb (fun r4 u5 br4 hw => ?_))
    refine v_to (wCD G a0 v0.1 v0.2.1 v0.2.2.1 v0.2.2.2.1 v0.2.2.2.2.1 v0.2.2.2.2.2.1 v0.2.2.2.2.2.2) 11 [(0, .ref a0.1), (1, .int i0), (2, .int i1), (3, .int i2)] _ [.int r4] rfl rfl rfl rfl ?_
    refine v_if_eq (pc2 := 14) (tgt := 26) S dX8_join_11 (by decide) rfl (fun c6 => ?_) (fun c6 => ?_)
    · have hw := hw.1 c6
      refine v_iconst (v := -1) (pc2 := 27) S dX8_join_26 (by decide) rfl ?_
      exact v_iret S ⟨(-1 : Int32), v0, rfl, rfl, hw⟩ dX8_join_27
    · have hw := hw.2 c6
      refine v_iload_n (pc2 := 15) S 3 dX8_join_14 rfl rfl rfl ?_
      refine v_callS (pc2 := 18) (As := [.int i2]) (rest := []) S (c_X8_isHall l G i2 _ hw) mf_X8_isHall u_321 u_322 rfl rfl ⟨rfl, rfl⟩ ⟨Nat.le_of_ble_eq_true rfl, Nat.le_of_ble_eq_true rfl⟩ ⟨Nat.le_of_ble_eq_true rfl, Nat.le_of_ble_eq_true rfl⟩ (Nat.le_of_ble_eq_true rfl) dX8_join_15 (frM [] [] _) rfl (pb (fun r7 u8 br7 hw => ?_))
      refine v_to (wCD G a0 v0.1 v0.2.1 v0.2.2.1 v0.2.2.2.1 v0.2.2.2.2.1 v0.2.2.2.2.2.1 v0.2.2.2.2.2.2) 18 [(0, .ref a0.1), (1, .int i0), (2, .int i1), (3, .int i2)] _ [.int r7] rfl rfl rfl rfl ?_
      refine v_if_eq (pc2 := 21) (tgt := 26) S dX8_join_18 (by decide) rfl (fun c9 => ?_) (fun c9 => ?_)
      · have hw := hw.1 c9
        refine v_iconst (v := -1) (pc2 := 27) S dX8_join_26 (by decide) rfl ?_
        exact v_iret S ⟨(-1 : Int32), v0, rfl, rfl, hw⟩ dX8_join_27
      · have hw := hw.2 c9
        refine v_iload_n (pc2 := 22) S 2 dX8_join_21 rfl rfl rfl ?_
        refine v_iload_n (pc2 := 23) S 3 dX8_join_22 rfl rfl rfl ?_
        refine v_icmp_ne (pc2 := 26) (tgt := 28) S dX8_join_23 (by decide) rfl (fun c10 => ?_) (fun c10 => ?_)
        · have hw := hw.1 c10
          refine v_aload_n (pc2 := 29) S 0 dX8_join_28 rfl rfl rfl ?_
          refine v_get (v := .ref a0.2.1.1) (pc2 := 32) S gf_X8_12 0 rfl rfl dX8_join_29 rfl ?_
          refine v_iload_n (pc2 := 33) S 1 dX8_join_32 rfl rfl rfl ?_
          refine v_callV (pc2 := 36) (As := [.int i0]) (rest := []) S (c_X5_isOpen l G a0.2.1 v0.1 i0 _ hw) mf_X5_isOpen u_491 u_283 u_284 0 5 rfl rfl rfl rfl ⟨rfl, rfl⟩ ⟨Nat.le_of_ble_eq_true rfl, Nat.le_of_ble_eq_true rfl⟩ ⟨Nat.le_of_ble_eq_true rfl, Nat.le_of_ble_eq_true rfl⟩ (Nat.le_of_ble_eq_true rfl) dX8_join_33 (frM (([(a0.1, .inr (8, [.ref a0.2.1.1, .ref a0.2.2.1.1, .ref a0.2.2.2.1.1, .int v0.2.2.2.1, .ref a0.2.2.2.2.1.1, .ref a0.2.2.2.2.2.1, .ref a0.2.2.2.2.2.2.1]))] : va_W) ++ ((wPad G a0.2.2.2.2.1 v0.2.2.2.2.1.1 v0.2.2.2.2.1.2) ++ ((wStop G a0.2.2.2.2.2.1 v0.2.2.2.2.2.1.1 v0.2.2.2.2.2.1.2.1 v0.2.2.2.2.2.1.2.2) ++ (wHist G a0.2.2.1 v0.2.1.1 v0.2.1.2.1 v0.2.1.2.2)))) (wSt G a0.2.1 v0.1.1 v0.1.2.1 v0.1.2.2.1 v0.1.2.2.2) ((wSt G a0.2.2.2.1 v0.2.2.1.1 v0.2.2.1.2.1 v0.2.2.1.2.2.1 v0.2.2.1.2.2.2) ++ (wWays G a0.2.2.2.2.2.2 v0.2.2.2.2.2.2.1 v0.2.2.2.2.2.2.2.1 v0.2.2.2.2.2.2.2.2))) rfl (pb (fun r11 u12 br11 hw => ?_))
          refine v_to (wCD G a0 v0.1 v0.2.1 v0.2.2.1 v0.2.2.2.1 v0.2.2.2.2.1 v0.2.2.2.2.2.1 v0.2.2.2.2.2.2) 36 [(0, .ref a0.1), (1, .int i0), (2, .int i1), (3, .int i2)] _ [.int r11] rfl rfl rfl rfl ?_
          refine v_if_eq (pc2 := 39) (tgt := 42) S dX8_join_36 (by decide) rfl (fun c13 => ?_) (fun c13 => ?_)
          · have hw := hw.1 c13
            refine v_aload_n (pc2 := 43) S 0 dX8_join_42 rfl rfl rfl ?_
            refine v_get (v := .ref a0.2.2.1.1) (pc2 := 46) S gf_X8_19 0 rfl rfl dX8_join_43 rfl ?_
            refine v_aload_n (pc2 := 47) S 0 dX8_join_46 rfl rfl rfl ?_
            refine v_get (v := .ref a0.2.1.1) (pc2 := 50) S gf_X8_12 0 rfl rfl dX8_join_47 rfl ?_
            refine v_callV (pc2 := 53) (As := [.ref a0.2.1.1]) (rest := []) S (c_X2_record l G a0.2.2.1 a0.2.1 v0.2.1 v0.1 _ hw) mf_X2_record u_469 u_470 u_471 0 2 rfl rfl rfl rfl ⟨rfl, rfl⟩ ⟨Nat.le_of_ble_eq_true rfl, Nat.le_of_ble_eq_true rfl⟩ ⟨Nat.le_of_ble_eq_true rfl, Nat.le_of_ble_eq_true rfl⟩ (Nat.le_of_ble_eq_true rfl) dX8_join_50 (frM (([(a0.1, .inr (8, [.ref a0.2.1.1, .ref a0.2.2.1.1, .ref a0.2.2.2.1.1, .int v0.2.2.2.1, .ref a0.2.2.2.2.1.1, .ref a0.2.2.2.2.2.1, .ref a0.2.2.2.2.2.2.1]))] : va_W) ++ ((wPad G a0.2.2.2.2.1 v0.2.2.2.2.1.1 v0.2.2.2.2.1.2) ++ (wStop G a0.2.2.2.2.2.1 v0.2.2.2.2.2.1.1 v0.2.2.2.2.2.1.2.1 v0.2.2.2.2.2.1.2.2))) (wHist G a0.2.2.1 v0.2.1.1 v0.2.1.2.1 v0.2.1.2.2 ++ wSt G a0.2.1 v0.1.1 v0.1.2.1 v0.1.2.2.1 v0.1.2.2.2) ((wSt G a0.2.2.2.1 v0.2.2.1.1 v0.2.2.1.2.1 v0.2.2.1.2.2.1 v0.2.2.1.2.2.2) ++ (wWays G a0.2.2.2.2.2.2 v0.2.2.2.2.2.2.1 v0.2.2.2.2.2.2.2.1 v0.2.2.2.2.2.2.2.2))) rfl (pv (fun u15 hw => ?_))
            refine v_to (wCD G a0 v0.1 u15 v0.2.2.1 v0.2.2.2.1 v0.2.2.2.2.1 v0.2.2.2.2.2.1 v0.2.2.2.2.2.2) 53 [(0, .ref a0.1), (1, .int i0), (2, .int i1), (3, .int i2)] _ [] rfl rfl rfl rfl ?_
            refine v_bipush (v := 10) (pc2 := 55) S dX8_join_53 (by decide) rfl ?_
            refine v_aload_n (pc2 := 56) S 0 dX8_join_55 rfl rfl rfl ?_
            refine v_get (v := .ref a0.2.1.1) (pc2 := 59) S gf_X8_12 0 rfl rfl dX8_join_56 rfl ?_
            refine v_getN (v := .ref a0.2.1.2.1.1) (pc2 := 62) S gf_X8_66 62 rfl rfl dX8_join_59 rfl ?_
            refine v_iload_n (pc2 := 63) S 1 dX8_join_62 rfl rfl rfl ?_
            refine v_callV (pc2 := 66) (As := [.int i0]) (rest := [.int (10 : Int32)]) S (c_X3_lesserHall l G a0.2.1.2.1 v0.1.1 i0 _ hw) mf_X3_lesserHall u_492 u_387 u_388 0 3 rfl rfl rfl rfl ⟨rfl, rfl⟩ ⟨Nat.le_of_ble_eq_true rfl, Nat.le_of_ble_eq_true rfl⟩ ⟨Nat.le_of_ble_eq_true rfl, Nat.le_of_ble_eq_true rfl⟩ (Nat.le_of_ble_eq_true rfl) dX8_join_63 (frM (([(a0.1, .inr (8, [.ref a0.2.1.1, .ref a0.2.2.1.1, .ref a0.2.2.2.1.1, .int v0.2.2.2.1, .ref a0.2.2.2.2.1.1, .ref a0.2.2.2.2.2.1, .ref a0.2.2.2.2.2.2.1]))] : va_W) ++ ((wPad G a0.2.2.2.2.1 v0.2.2.2.2.1.1 v0.2.2.2.2.1.2) ++ ((wStop G a0.2.2.2.2.2.1 v0.2.2.2.2.2.1.1 v0.2.2.2.2.2.1.2.1 v0.2.2.2.2.2.1.2.2) ++ ((wHist G a0.2.2.1 u15.1 u15.2.1 u15.2.2) ++ (([(a0.2.1.1, .inr (5, [.ref a0.2.1.2.1.1, .ref a0.2.1.2.2.1.1, .ref a0.2.1.2.2.2.1, .int v0.1.2.2.2]))] : va_W)))))) (wLoom G a0.2.1.2.1 v0.1.1.1 v0.1.1.2.1 v0.1.1.2.2.1 v0.1.1.2.2.2.1 v0.1.1.2.2.2.2.1 v0.1.1.2.2.2.2.2) ((wGu G a0.2.1.2.2.1 v0.1.2.1.1 v0.1.2.1.2.1 v0.1.2.1.2.2) ++ ((wAc G a0.2.1.2.2.2 v0.1.2.2.1.1 v0.1.2.2.1.2.1 v0.1.2.2.1.2.2.1 v0.1.2.2.1.2.2.2.1 v0.1.2.2.1.2.2.2.2.1 v0.1.2.2.1.2.2.2.2.2.1 v0.1.2.2.1.2.2.2.2.2.2) ++ ((wSt G a0.2.2.2.1 v0.2.2.1.1 v0.2.2.1.2.1 v0.2.2.1.2.2.1 v0.2.2.1.2.2.2) ++ (wWays G a0.2.2.2.2.2.2 v0.2.2.2.2.2.2.1 v0.2.2.2.2.2.2.2.1 v0.2.2.2.2.2.2.2.2))))) rfl (pi (fun r16 u17 hw => ?_))
            refine v_to (wCD G a0 v0.1 u15 v0.2.2.1 v0.2.2.2.1 v0.2.2.2.2.1 v0.2.2.2.2.2.1 v0.2.2.2.2.2.2) 66 [(0, .ref a0.1), (1, .int i0), (2, .int i1), (3, .int i2)] _ [.int r16, .int (10 : Int32)] rfl rfl rfl rfl ?_
            refine v_imul (pc2 := 67) S dX8_join_66 rfl ?_
            refine v_aload_n (pc2 := 68) S 0 dX8_join_67 rfl rfl rfl ?_
            refine v_get (v := .ref a0.2.1.1) (pc2 := 71) S gf_X8_12 0 rfl rfl dX8_join_68 rfl ?_
            refine v_getN (v := .ref a0.2.1.2.1.1) (pc2 := 74) S gf_X8_66 62 rfl rfl dX8_join_71 rfl ?_
            refine v_iload_n (pc2 := 75) S 1 dX8_join_74 rfl rfl rfl ?_
            refine v_callV (pc2 := 78) (As := [.int i0]) (rest := [.int ((10 : Int32) * r16)]) S (c_X3_greaterHall l G a0.2.1.2.1 v0.1.1 i0 _ hw) mf_X3_greaterHall u_493 u_391 u_392 0 3 rfl rfl rfl rfl ⟨rfl, rfl⟩ ⟨Nat.le_of_ble_eq_true rfl, Nat.le_of_ble_eq_true rfl⟩ ⟨Nat.le_of_ble_eq_true rfl, Nat.le_of_ble_eq_true rfl⟩ (Nat.le_of_ble_eq_true rfl) dX8_join_75 (frM (([(a0.1, .inr (8, [.ref a0.2.1.1, .ref a0.2.2.1.1, .ref a0.2.2.2.1.1, .int v0.2.2.2.1, .ref a0.2.2.2.2.1.1, .ref a0.2.2.2.2.2.1, .ref a0.2.2.2.2.2.2.1]))] : va_W) ++ ((wPad G a0.2.2.2.2.1 v0.2.2.2.2.1.1 v0.2.2.2.2.1.2) ++ ((wStop G a0.2.2.2.2.2.1 v0.2.2.2.2.2.1.1 v0.2.2.2.2.2.1.2.1 v0.2.2.2.2.2.1.2.2) ++ ((wHist G a0.2.2.1 u15.1 u15.2.1 u15.2.2) ++ (([(a0.2.1.1, .inr (5, [.ref a0.2.1.2.1.1, .ref a0.2.1.2.2.1.1, .ref a0.2.1.2.2.2.1, .int v0.1.2.2.2]))] : va_W)))))) (wLoom G a0.2.1.2.1 v0.1.1.1 v0.1.1.2.1 v0.1.1.2.2.1 v0.1.1.2.2.2.1 v0.1.1.2.2.2.2.1 v0.1.1.2.2.2.2.2) ((wGu G a0.2.1.2.2.1 v0.1.2.1.1 v0.1.2.1.2.1 v0.1.2.1.2.2) ++ ((wAc G a0.2.1.2.2.2 v0.1.2.2.1.1 v0.1.2.2.1.2.1 v0.1.2.2.1.2.2.1 v0.1.2.2.1.2.2.2.1 v0.1.2.2.1.2.2.2.2.1 v0.1.2.2.1.2.2.2.2.2.1 v0.1.2.2.1.2.2.2.2.2.2) ++ ((wSt G a0.2.2.2.1 v0.2.2.1.1 v0.2.2.1.2.1 v0.2.2.1.2.2.1 v0.2.2.1.2.2.2) ++ (wWays G a0.2.2.2.2.2.2 v0.2.2.2.2.2.2.1 v0.2.2.2.2.2.2.2.1 v0.2.2.2.2.2.2.2.2))))) rfl (pi (fun r18 u19 hw => ?_))
            refine v_to (wCD G a0 v0.1 u15 v0.2.2.1 v0.2.2.2.1 v0.2.2.2.2.1 v0.2.2.2.2.2.1 v0.2.2.2.2.2.2) 78 [(0, .ref a0.1), (1, .int i0), (2, .int i1), (3, .int i2)] _ [.int r18, .int ((10 : Int32) * r16)] rfl rfl rfl rfl ?_
            refine v_iadd (pc2 := 79) S dX8_join_78 rfl ?_
            refine v_nm (fun z20 ez20 => ?_)
            have hw := hw z20 ez20
            refine v_istore (lv2 := [(0, .ref a0.1), (1, .int i0), (2, .int i1), (3, .int i2), (4, .int z20)]) (pc2 := 81) S dX8_join_79 (by decide) [1, 2, 3, 4, 0] rfl rfl ?_
            refine v_aload_n (pc2 := 82) S 0 dX8_join_81 rfl rfl rfl ?_
            refine v_get (v := .ref a0.2.1.1) (pc2 := 85) S gf_X8_12 0 rfl rfl dX8_join_82 rfl ?_
            refine v_getN (v := .ref a0.2.1.2.1.1) (pc2 := 88) S gf_X8_66 62 rfl rfl dX8_join_85 rfl ?_
            refine v_iload_n (pc2 := 89) S 1 dX8_join_88 rfl rfl rfl ?_
            refine v_iload_n (pc2 := 90) S 2 dX8_join_89 rfl rfl rfl ?_
            refine v_iload_n (pc2 := 91) S 3 dX8_join_90 rfl rfl rfl ?_
            refine v_callV (pc2 := 94) (As := [.int i0, .int i1, .int i2]) (rest := []) S (c_X3_hang l G a0.2.1.2.1 v0.1.1 i0 i1 i2 _ hw) mf_X3_hang u_609 u_54 u_55 0 3 rfl rfl rfl rfl ⟨rfl, rfl⟩ ⟨Nat.le_of_ble_eq_true rfl, Nat.le_of_ble_eq_true rfl⟩ ⟨Nat.le_of_ble_eq_true rfl, Nat.le_of_ble_eq_true rfl⟩ (Nat.le_of_ble_eq_true rfl) dX8_join_91 (frM (([(a0.1, .inr (8, [.ref a0.2.1.1, .ref a0.2.2.1.1, .ref a0.2.2.2.1.1, .int v0.2.2.2.1, .ref a0.2.2.2.2.1.1, .ref a0.2.2.2.2.2.1, .ref a0.2.2.2.2.2.2.1]))] : va_W) ++ ((wPad G a0.2.2.2.2.1 v0.2.2.2.2.1.1 v0.2.2.2.2.1.2) ++ ((wStop G a0.2.2.2.2.2.1 v0.2.2.2.2.2.1.1 v0.2.2.2.2.2.1.2.1 v0.2.2.2.2.2.1.2.2) ++ ((wHist G a0.2.2.1 u15.1 u15.2.1 u15.2.2) ++ (([(a0.2.1.1, .inr (5, [.ref a0.2.1.2.1.1, .ref a0.2.1.2.2.1.1, .ref a0.2.1.2.2.2.1, .int v0.1.2.2.2]))] : va_W)))))) (wLoom G a0.2.1.2.1 v0.1.1.1 v0.1.1.2.1 v0.1.1.2.2.1 v0.1.1.2.2.2.1 v0.1.1.2.2.2.2.1 v0.1.1.2.2.2.2.2) ((wGu G a0.2.1.2.2.1 v0.1.2.1.1 v0.1.2.1.2.1 v0.1.2.1.2.2) ++ ((wAc G a0.2.1.2.2.2 v0.1.2.2.1.1 v0.1.2.2.1.2.1 v0.1.2.2.1.2.2.1 v0.1.2.2.1.2.2.2.1 v0.1.2.2.1.2.2.2.2.1 v0.1.2.2.1.2.2.2.2.2.1 v0.1.2.2.1.2.2.2.2.2.2) ++ ((wSt G a0.2.2.2.1 v0.2.2.1.1 v0.2.2.1.2.1 v0.2.2.1.2.2.1 v0.2.2.1.2.2.2) ++ (wWays G a0.2.2.2.2.2.2 v0.2.2.2.2.2.2.1 v0.2.2.2.2.2.2.2.1 v0.2.2.2.2.2.2.2.2))))) rfl (pv (fun u22 hw => ?_))
            refine v_to (wCD G a0 (u22, v0.1.2.1, v0.1.2.2.1, v0.1.2.2.2) u15 v0.2.2.1 v0.2.2.2.1 v0.2.2.2.2.1 v0.2.2.2.2.2.1 v0.2.2.2.2.2.2) 94 [(0, .ref a0.1), (1, .int i0), (2, .int i1), (3, .int i2), (4, .int z20)] _ [] rfl rfl rfl rfl ?_
            refine v_iload (pc2 := 96) S 4 dX8_join_94 rfl rfl ?_
            exact v_iret S ⟨z20, ((u22, v0.1.2.1, v0.1.2.2.1, v0.1.2.2.2), u15, v0.2.2.1, v0.2.2.2.1, v0.2.2.2.2.1, v0.2.2.2.2.2.1, v0.2.2.2.2.2.2), rfl, rfl, hw⟩ dX8_join_96
          · have hw := hw.2 c13
            refine v_bipush (v := -2) (pc2 := 41) S dX8_join_39 (by decide) rfl ?_
            exact v_iret S ⟨(-2 : Int32), v0, rfl, rfl, hw⟩ dX8_join_41
        · have hw := hw.2 c10
          refine v_iconst (v := -1) (pc2 := 27) S dX8_join_26 (by decide) rfl ?_
          exact v_iret S ⟨(-1 : Int32), v0, rfl, rfl, hw⟩ dX8_join_27
set_option maxHeartbeats 4000000 in
set_option maxRecDepth 100000 in
theorem c_X8_keys (l : Launch) (G : GG) (a0 : CDA) (v0 : CDV) (i0 : Int32) (i1 : Int32) (Q : Int32 → CDV → Prop) (hw : wp_X8_keys v0 i0 i1 Q) : Con l G yX8_keys cX8_keys 4 (some .int) { frames := 4, cells := 0, slots := 0, locals := 123 } [.ref a0.1, .int i0, .int i1] (wCD G a0 v0.1 v0.2.1 v0.2.2.1 v0.2.2.2.1 v0.2.2.2.2.1 v0.2.2.2.2.2.1 v0.2.2.2.2.2.2) (PI (fun u : CDV => wCD G a0 u.1 u.2.1 u.2.2.1 u.2.2.2.1 u.2.2.2.2.1 u.2.2.2.2.2.1 u.2.2.2.2.2.2) Q) 0 0 := by
  refine con_of RX8 rfl (by decide) [(0, .ref a0.1), (1, .int i0), (2, .int i1)] rfl (Nat.le_of_ble_eq_true rfl) ?_
  intro p e s m args below meth c S hname
  refine v_iload_n (pc2 := 1) S 1 dX8_keys_0 rfl rfl rfl ?_
  refine v_callS (pc2 := 4) (As := [.int i0]) (rest := []) S (c_X8_isGuest l G i0 _ hw) mf_X8_isGuest u_256 u_257 rfl rfl ⟨rfl, rfl⟩ ⟨Nat.le_of_ble_eq_true rfl, Nat.le_of_ble_eq_true rfl⟩ ⟨Nat.le_of_ble_eq_true rfl, Nat.le_of_ble_eq_true rfl⟩ (Nat.le_of_ble_eq_true rfl) dX8_keys_1 (frM [] [] _) rfl (pb (fun r1 u2 br1 hw => ?_))
  refine v_to (wCD G a0 v0.1 v0.2.1 v0.2.2.1 v0.2.2.2.1 v0.2.2.2.2.1 v0.2.2.2.2.2.1 v0.2.2.2.2.2.2) 4 [(0, .ref a0.1), (1, .int i0), (2, .int i1)] _ [.int r1] rfl rfl rfl rfl ?_
  refine v_if_eq (pc2 := 7) (tgt := 14) S dX8_keys_4 (by decide) rfl (fun c3 => ?_) (fun c3 => ?_)
  · have hw := hw.1 c3
    refine v_iconst (v := -1) (pc2 := 15) S dX8_keys_14 (by decide) rfl ?_
    exact v_iret S ⟨(-1 : Int32), v0, rfl, rfl, hw⟩ dX8_keys_15
  · have hw := hw.2 c3
    refine v_iload_n (pc2 := 8) S 2 dX8_keys_7 rfl rfl rfl ?_
    refine v_callS (pc2 := 11) (As := [.int i1]) (rest := []) S (c_X8_isSetOfDoors l G i1 _ hw) mf_X8_isSetOfDoors u_299 u_300 rfl rfl ⟨rfl, rfl⟩ ⟨Nat.le_of_ble_eq_true rfl, Nat.le_of_ble_eq_true rfl⟩ ⟨Nat.le_of_ble_eq_true rfl, Nat.le_of_ble_eq_true rfl⟩ (Nat.le_of_ble_eq_true rfl) dX8_keys_8 (frM [] [] _) rfl (pb (fun r4 u5 br4 hw => ?_))
    refine v_to (wCD G a0 v0.1 v0.2.1 v0.2.2.1 v0.2.2.2.1 v0.2.2.2.2.1 v0.2.2.2.2.2.1 v0.2.2.2.2.2.2) 11 [(0, .ref a0.1), (1, .int i0), (2, .int i1)] _ [.int r4] rfl rfl rfl rfl ?_
    refine v_if_ne (pc2 := 14) (tgt := 16) S dX8_keys_11 (by decide) rfl (fun c6 => ?_) (fun c6 => ?_)
    · have hw := hw.1 c6
      refine v_aload_n (pc2 := 17) S 0 dX8_keys_16 rfl rfl rfl ?_
      refine v_get (v := .ref a0.2.2.1.1) (pc2 := 20) S gf_X8_19 0 rfl rfl dX8_keys_17 rfl ?_
      refine v_aload_n (pc2 := 21) S 0 dX8_keys_20 rfl rfl rfl ?_
      refine v_get (v := .ref a0.2.1.1) (pc2 := 24) S gf_X8_12 0 rfl rfl dX8_keys_21 rfl ?_
      refine v_callV (pc2 := 27) (As := [.ref a0.2.1.1]) (rest := []) S (c_X2_record l G a0.2.2.1 a0.2.1 v0.2.1 v0.1 _ hw) mf_X2_record u_469 u_470 u_471 0 2 rfl rfl rfl rfl ⟨rfl, rfl⟩ ⟨Nat.le_of_ble_eq_true rfl, Nat.le_of_ble_eq_true rfl⟩ ⟨Nat.le_of_ble_eq_true rfl, Nat.le_of_ble_eq_true rfl⟩ (Nat.le_of_ble_eq_true rfl) dX8_keys_24 (frM (([(a0.1, .inr (8, [.ref a0.2.1.1, .ref a0.2.2.1.1, .ref a0.2.2.2.1.1, .int v0.2.2.2.1, .ref a0.2.2.2.2.1.1, .ref a0.2.2.2.2.2.1, .ref a0.2.2.2.2.2.2.1]))] : va_W) ++ ((wPad G a0.2.2.2.2.1 v0.2.2.2.2.1.1 v0.2.2.2.2.1.2) ++ (wStop G a0.2.2.2.2.2.1 v0.2.2.2.2.2.1.1 v0.2.2.2.2.2.1.2.1 v0.2.2.2.2.2.1.2.2))) (wHist G a0.2.2.1 v0.2.1.1 v0.2.1.2.1 v0.2.1.2.2 ++ wSt G a0.2.1 v0.1.1 v0.1.2.1 v0.1.2.2.1 v0.1.2.2.2) ((wSt G a0.2.2.2.1 v0.2.2.1.1 v0.2.2.1.2.1 v0.2.2.1.2.2.1 v0.2.2.1.2.2.2) ++ (wWays G a0.2.2.2.2.2.2 v0.2.2.2.2.2.2.1 v0.2.2.2.2.2.2.2.1 v0.2.2.2.2.2.2.2.2))) rfl (pv (fun u8 hw => ?_))
      refine v_to (wCD G a0 v0.1 u8 v0.2.2.1 v0.2.2.2.1 v0.2.2.2.2.1 v0.2.2.2.2.2.1 v0.2.2.2.2.2.2) 27 [(0, .ref a0.1), (1, .int i0), (2, .int i1)] _ [] rfl rfl rfl rfl ?_
      refine v_aload_n (pc2 := 28) S 0 dX8_keys_27 rfl rfl rfl ?_
      refine v_get (v := .ref a0.2.1.1) (pc2 := 31) S gf_X8_12 0 rfl rfl dX8_keys_28 rfl ?_
      refine v_getN (v := .ref a0.2.1.2.2.1.1) (pc2 := 34) S gf_X8_102 62 rfl rfl dX8_keys_31 rfl ?_
      refine v_getN (v := .ref a0.2.1.2.2.1.2.2.1) (pc2 := 37) S gf_X8_106 69 rfl rfl dX8_keys_34 rfl ?_
      refine v_iload_n (pc2 := 38) S 1 dX8_keys_37 rfl rfl rfl ?_
      obtain ⟨h9, hw⟩ := hw
      refine v_iald (pc2 := 39) S 71 rfl h9 dX8_keys_38 rfl ?_
      refine v_nm (fun z10 ez10 => ?_)
      have hw := hw z10 ez10
      refine v_istore_n (lv2 := [(0, .ref a0.1), (1, .int i0), (2, .int i1), (3, .int z10)]) (pc2 := 40) S dX8_keys_39 rfl (by decide) [1, 2, 3, 0] rfl rfl ?_
      refine v_aload_n (pc2 := 41) S 0 dX8_keys_40 rfl rfl rfl ?_
      refine v_get (v := .ref a0.2.1.1) (pc2 := 44) S gf_X8_12 0 rfl rfl dX8_keys_41 rfl ?_
      refine v_getN (v := .ref a0.2.1.2.2.1.1) (pc2 := 47) S gf_X8_102 62 rfl rfl dX8_keys_44 rfl ?_
      refine v_getN (v := .ref a0.2.1.2.2.1.2.2.1) (pc2 := 50) S gf_X8_106 69 rfl rfl dX8_keys_47 rfl ?_
      refine v_iload_n (pc2 := 51) S 1 dX8_keys_50 rfl rfl rfl ?_
      refine v_iload_n (pc2 := 52) S 2 dX8_keys_51 rfl rfl rfl ?_
      obtain ⟨h11, hw⟩ := hw
      obtain ⟨g12, eg12⟩ : ∃ y : Nat → Int32, y = upd v0.1.2.1.2.1 i0.toNatClampNeg i1 := ⟨_, rfl⟩
      have hw := hw g12 eg12
      refine v_iast (ws2 := wCD G a0 (v0.1.1, (v0.1.2.1.1, g12, v0.1.2.1.2.2), v0.1.2.2.1, v0.1.2.2.2) u8 v0.2.2.1 v0.2.2.2.1 v0.2.2.2.2.1 v0.2.2.2.2.2.1 v0.2.2.2.2.2.2) (pc2 := 53) S 71 rfl h11 (by rw [eg12] <;> rfl) dX8_keys_52 rfl ?_
      refine v_iload_n (pc2 := 54) S 3 dX8_keys_53 rfl rfl rfl ?_
      exact v_iret S ⟨z10, ((v0.1.1, (v0.1.2.1.1, g12, v0.1.2.1.2.2), v0.1.2.2.1, v0.1.2.2.2), u8, v0.2.2.1, v0.2.2.2.1, v0.2.2.2.2.1, v0.2.2.2.2.2.1, v0.2.2.2.2.2.2), rfl, rfl, hw⟩ dX8_keys_54
    · have hw := hw.2 c6
      refine v_iconst (v := -1) (pc2 := 15) S dX8_keys_14 (by decide) rfl ?_
      exact v_iret S ⟨(-1 : Int32), v0, rfl, rfl, hw⟩ dX8_keys_15
set_option maxHeartbeats 4000000 in
set_option maxRecDepth 100000 in
theorem c_X8_draft (l : Launch) (G : GG) (a0 : CDA) (v0 : CDV) (i0 : Int32) (Q : Int32 → CDV → Prop) (hw : wp_X8_draft v0 i0 Q) : Con l G yX8_draft cX8_draft 3 (some .int) { frames := 4, cells := 0, slots := 0, locals := 123 } [.ref a0.1, .int i0] (wCD G a0 v0.1 v0.2.1 v0.2.2.1 v0.2.2.2.1 v0.2.2.2.2.1 v0.2.2.2.2.2.1 v0.2.2.2.2.2.2) (PI (fun u : CDV => wCD G a0 u.1 u.2.1 u.2.2.1 u.2.2.2.1 u.2.2.2.2.1 u.2.2.2.2.2.1 u.2.2.2.2.2.2) Q) 0 0 := by
  refine con_of RX8 rfl (by decide) [(0, .ref a0.1), (1, .int i0)] rfl (Nat.le_of_ble_eq_true rfl) ?_
  intro p e s m args below meth c S hname
  refine v_iload_n (pc2 := 1) S 1 dX8_draft_0 rfl rfl rfl ?_
  refine v_iconst (v := 1) (pc2 := 2) S dX8_draft_1 (by decide) rfl ?_
  refine v_icmp_lt (pc2 := 5) (tgt := 11) S dX8_draft_2 (by decide) rfl (fun c1 => ?_) (fun c1 => ?_)
  · have hw := hw.1 c1
    refine v_iconst (v := -1) (pc2 := 12) S dX8_draft_11 (by decide) rfl ?_
    exact v_iret S ⟨(-1 : Int32), v0, rfl, rfl, hw⟩ dX8_draft_12
  · have hw := hw.2 c1
    refine v_iload_n (pc2 := 6) S 1 dX8_draft_5 rfl rfl rfl ?_
    refine v_bipush (v := 10) (pc2 := 8) S dX8_draft_6 (by decide) rfl ?_
    refine v_icmp_le (pc2 := 11) (tgt := 13) S dX8_draft_8 (by decide) rfl (fun c2 => ?_) (fun c2 => ?_)
    · have hw := hw.1 c2
      refine v_aload_n (pc2 := 14) S 0 dX8_draft_13 rfl rfl rfl ?_
      refine v_get (v := .ref a0.2.2.1.1) (pc2 := 17) S gf_X8_19 0 rfl rfl dX8_draft_14 rfl ?_
      refine v_aload_n (pc2 := 18) S 0 dX8_draft_17 rfl rfl rfl ?_
      refine v_get (v := .ref a0.2.1.1) (pc2 := 21) S gf_X8_12 0 rfl rfl dX8_draft_18 rfl ?_
      refine v_callV (pc2 := 24) (As := [.ref a0.2.1.1]) (rest := []) S (c_X2_record l G a0.2.2.1 a0.2.1 v0.2.1 v0.1 _ hw) mf_X2_record u_469 u_470 u_471 0 2 rfl rfl rfl rfl ⟨rfl, rfl⟩ ⟨Nat.le_of_ble_eq_true rfl, Nat.le_of_ble_eq_true rfl⟩ ⟨Nat.le_of_ble_eq_true rfl, Nat.le_of_ble_eq_true rfl⟩ (Nat.le_of_ble_eq_true rfl) dX8_draft_21 (frM (([(a0.1, .inr (8, [.ref a0.2.1.1, .ref a0.2.2.1.1, .ref a0.2.2.2.1.1, .int v0.2.2.2.1, .ref a0.2.2.2.2.1.1, .ref a0.2.2.2.2.2.1, .ref a0.2.2.2.2.2.2.1]))] : va_W) ++ ((wPad G a0.2.2.2.2.1 v0.2.2.2.2.1.1 v0.2.2.2.2.1.2) ++ (wStop G a0.2.2.2.2.2.1 v0.2.2.2.2.2.1.1 v0.2.2.2.2.2.1.2.1 v0.2.2.2.2.2.1.2.2))) (wHist G a0.2.2.1 v0.2.1.1 v0.2.1.2.1 v0.2.1.2.2 ++ wSt G a0.2.1 v0.1.1 v0.1.2.1 v0.1.2.2.1 v0.1.2.2.2) ((wSt G a0.2.2.2.1 v0.2.2.1.1 v0.2.2.1.2.1 v0.2.2.1.2.2.1 v0.2.2.1.2.2.2) ++ (wWays G a0.2.2.2.2.2.2 v0.2.2.2.2.2.2.1 v0.2.2.2.2.2.2.2.1 v0.2.2.2.2.2.2.2.2))) rfl (pv (fun u4 hw => ?_))
      refine v_to (wCD G a0 v0.1 u4 v0.2.2.1 v0.2.2.2.1 v0.2.2.2.2.1 v0.2.2.2.2.2.1 v0.2.2.2.2.2.2) 24 [(0, .ref a0.1), (1, .int i0)] _ [] rfl rfl rfl rfl ?_
      refine v_aload_n (pc2 := 25) S 0 dX8_draft_24 rfl rfl rfl ?_
      refine v_get (v := .ref a0.2.1.1) (pc2 := 28) S gf_X8_12 0 rfl rfl dX8_draft_25 rfl ?_
      refine v_getN (v := .ref a0.2.1.2.1.1) (pc2 := 31) S gf_X8_66 62 rfl rfl dX8_draft_28 rfl ?_
      refine v_getN (v := .int v0.1.1.2.2.2.2.2) (pc2 := 34) S gf_X8_112 63 rfl rfl dX8_draft_31 rfl ?_
      refine v_nm (fun z5 ez5 => ?_)
      have hw := hw z5 ez5
      refine v_istore_n (lv2 := [(0, .ref a0.1), (1, .int i0), (2, .int z5)]) (pc2 := 35) S dX8_draft_34 rfl (by decide) [1, 2, 0] rfl rfl ?_
      refine v_aload_n (pc2 := 36) S 0 dX8_draft_35 rfl rfl rfl ?_
      refine v_get (v := .ref a0.2.1.1) (pc2 := 39) S gf_X8_12 0 rfl rfl dX8_draft_36 rfl ?_
      refine v_getN (v := .ref a0.2.1.2.1.1) (pc2 := 42) S gf_X8_66 62 rfl rfl dX8_draft_39 rfl ?_
      refine v_iload_n (pc2 := 43) S 1 dX8_draft_42 rfl rfl rfl ?_
      refine v_putN (ws2 := wCD G a0 ((v0.1.1.1, v0.1.1.2.1, v0.1.1.2.2.1, v0.1.1.2.2.2.1, v0.1.1.2.2.2.2.1, i0), v0.1.2.1, v0.1.2.2.1, v0.1.2.2.2) u4 v0.2.2.1 v0.2.2.2.1 v0.2.2.2.2.1 v0.2.2.2.2.2.1 v0.2.2.2.2.2.2) (pc2 := 46) S gf_X8_112 pf_X3_5 63 rfl rfl rfl (Nat.le_of_ble_eq_true rfl) rfl dX8_draft_43 rfl ?_
      refine v_iload_n (pc2 := 47) S 2 dX8_draft_46 rfl rfl rfl ?_
      exact v_iret S ⟨z5, (((v0.1.1.1, v0.1.1.2.1, v0.1.1.2.2.1, v0.1.1.2.2.2.1, v0.1.1.2.2.2.2.1, i0), v0.1.2.1, v0.1.2.2.1, v0.1.2.2.2), u4, v0.2.2.1, v0.2.2.2.1, v0.2.2.2.2.1, v0.2.2.2.2.2.1, v0.2.2.2.2.2.2), rfl, rfl, hw⟩ dX8_draft_47
    · have hw := hw.2 c2
      refine v_iconst (v := -1) (pc2 := 12) S dX8_draft_11 (by decide) rfl ?_
      exact v_iret S ⟨(-1 : Int32), v0, rfl, rfl, hw⟩ dX8_draft_12
set_option maxHeartbeats 4000000 in
set_option maxRecDepth 100000 in
theorem c_X8_guestOpens (l : Launch) (G : GG) (a0 : CDA) (v0 : CDV) (i0 : Int32) (i1 : Int32) (Q : Int32 → CDV → Prop) (hw : wp_X8_guestOpens v0 i0 i1 Q) : Con l G yX8_guestOpens cX8_guestOpens 3 (some .int) { frames := 5, cells := 0, slots := 0, locals := 123 } [.ref a0.1, .int i0, .int i1] (wCD G a0 v0.1 v0.2.1 v0.2.2.1 v0.2.2.2.1 v0.2.2.2.2.1 v0.2.2.2.2.2.1 v0.2.2.2.2.2.2) (PI (fun u : CDV => wCD G a0 u.1 u.2.1 u.2.2.1 u.2.2.2.1 u.2.2.2.2.1 u.2.2.2.2.2.1 u.2.2.2.2.2.2) Q) 0 0 := by
  refine con_of RX8 rfl (by decide) [(0, .ref a0.1), (1, .int i0), (2, .int i1)] rfl (Nat.le_of_ble_eq_true rfl) ?_
  intro p e s m args below meth c S hname
  refine v_iload_n (pc2 := 1) S 1 dX8_guestOpens_0 rfl rfl rfl ?_
  refine v_callS (pc2 := 4) (As := [.int i0]) (rest := []) S (c_X8_isGuest l G i0 _ hw) mf_X8_isGuest u_256 u_257 rfl rfl ⟨rfl, rfl⟩ ⟨Nat.le_of_ble_eq_true rfl, Nat.le_of_ble_eq_true rfl⟩ ⟨Nat.le_of_ble_eq_true rfl, Nat.le_of_ble_eq_true rfl⟩ (Nat.le_of_ble_eq_true rfl) dX8_guestOpens_1 (frM [] [] _) rfl (pb (fun r1 u2 br1 hw => ?_))
  refine v_to (wCD G a0 v0.1 v0.2.1 v0.2.2.1 v0.2.2.2.1 v0.2.2.2.2.1 v0.2.2.2.2.2.1 v0.2.2.2.2.2.2) 4 [(0, .ref a0.1), (1, .int i0), (2, .int i1)] _ [.int r1] rfl rfl rfl rfl ?_
  refine v_if_eq (pc2 := 7) (tgt := 14) S dX8_guestOpens_4 (by decide) rfl (fun c3 => ?_) (fun c3 => ?_)
  · have hw := hw.1 c3
    refine v_iconst (v := -1) (pc2 := 15) S dX8_guestOpens_14 (by decide) rfl ?_
    exact v_iret S ⟨(-1 : Int32), v0, rfl, rfl, hw⟩ dX8_guestOpens_15
  · have hw := hw.2 c3
    refine v_iload_n (pc2 := 8) S 2 dX8_guestOpens_7 rfl rfl rfl ?_
    refine v_callS (pc2 := 11) (As := [.int i1]) (rest := []) S (c_X8_isDoor l G i1 _ hw) mf_X8_isDoor u_488 u_489 rfl rfl ⟨rfl, rfl⟩ ⟨Nat.le_of_ble_eq_true rfl, Nat.le_of_ble_eq_true rfl⟩ ⟨Nat.le_of_ble_eq_true rfl, Nat.le_of_ble_eq_true rfl⟩ (Nat.le_of_ble_eq_true rfl) dX8_guestOpens_8 (frM [] [] _) rfl (pb (fun r4 u5 br4 hw => ?_))
    refine v_to (wCD G a0 v0.1 v0.2.1 v0.2.2.1 v0.2.2.2.1 v0.2.2.2.2.1 v0.2.2.2.2.2.1 v0.2.2.2.2.2.2) 11 [(0, .ref a0.1), (1, .int i0), (2, .int i1)] _ [.int r4] rfl rfl rfl rfl ?_
    refine v_if_ne (pc2 := 14) (tgt := 16) S dX8_guestOpens_11 (by decide) rfl (fun c6 => ?_) (fun c6 => ?_)
    · have hw := hw.1 c6
      refine v_aload_n (pc2 := 17) S 0 dX8_guestOpens_16 rfl rfl rfl ?_
      refine v_get (v := .ref a0.2.2.1.1) (pc2 := 20) S gf_X8_19 0 rfl rfl dX8_guestOpens_17 rfl ?_
      refine v_aload_n (pc2 := 21) S 0 dX8_guestOpens_20 rfl rfl rfl ?_
      refine v_get (v := .ref a0.2.1.1) (pc2 := 24) S gf_X8_12 0 rfl rfl dX8_guestOpens_21 rfl ?_
      refine v_callV (pc2 := 27) (As := [.ref a0.2.1.1]) (rest := []) S (c_X2_record l G a0.2.2.1 a0.2.1 v0.2.1 v0.1 _ hw) mf_X2_record u_469 u_470 u_471 0 2 rfl rfl rfl rfl ⟨rfl, rfl⟩ ⟨Nat.le_of_ble_eq_true rfl, Nat.le_of_ble_eq_true rfl⟩ ⟨Nat.le_of_ble_eq_true rfl, Nat.le_of_ble_eq_true rfl⟩ (Nat.le_of_ble_eq_true rfl) dX8_guestOpens_24 (frM (([(a0.1, .inr (8, [.ref a0.2.1.1, .ref a0.2.2.1.1, .ref a0.2.2.2.1.1, .int v0.2.2.2.1, .ref a0.2.2.2.2.1.1, .ref a0.2.2.2.2.2.1, .ref a0.2.2.2.2.2.2.1]))] : va_W) ++ ((wPad G a0.2.2.2.2.1 v0.2.2.2.2.1.1 v0.2.2.2.2.1.2) ++ (wStop G a0.2.2.2.2.2.1 v0.2.2.2.2.2.1.1 v0.2.2.2.2.2.1.2.1 v0.2.2.2.2.2.1.2.2))) (wHist G a0.2.2.1 v0.2.1.1 v0.2.1.2.1 v0.2.1.2.2 ++ wSt G a0.2.1 v0.1.1 v0.1.2.1 v0.1.2.2.1 v0.1.2.2.2) ((wSt G a0.2.2.2.1 v0.2.2.1.1 v0.2.2.1.2.1 v0.2.2.1.2.2.1 v0.2.2.1.2.2.2) ++ (wWays G a0.2.2.2.2.2.2 v0.2.2.2.2.2.2.1 v0.2.2.2.2.2.2.2.1 v0.2.2.2.2.2.2.2.2))) rfl (pv (fun u8 hw => ?_))
      refine v_to (wCD G a0 v0.1 u8 v0.2.2.1 v0.2.2.2.1 v0.2.2.2.2.1 v0.2.2.2.2.2.1 v0.2.2.2.2.2.2) 27 [(0, .ref a0.1), (1, .int i0), (2, .int i1)] _ [] rfl rfl rfl rfl ?_
      refine v_aload_n (pc2 := 28) S 0 dX8_guestOpens_27 rfl rfl rfl ?_
      refine v_get (v := .ref a0.2.1.1) (pc2 := 31) S gf_X8_12 0 rfl rfl dX8_guestOpens_28 rfl ?_
      refine v_iload_n (pc2 := 32) S 1 dX8_guestOpens_31 rfl rfl rfl ?_
      refine v_iload_n (pc2 := 33) S 2 dX8_guestOpens_32 rfl rfl rfl ?_
      refine v_callV (pc2 := 36) (As := [.int i0, .int i1]) (rest := []) S (c_X5_opensAsGuest l G a0.2.1 v0.1 i0 i1 _ hw) mf_X5_opensAsGuest u_622 u_623 u_624 0 5 rfl rfl rfl rfl ⟨rfl, rfl⟩ ⟨Nat.le_of_ble_eq_true rfl, Nat.le_of_ble_eq_true rfl⟩ ⟨Nat.le_of_ble_eq_true rfl, Nat.le_of_ble_eq_true rfl⟩ (Nat.le_of_ble_eq_true rfl) dX8_guestOpens_33 (frM (([(a0.1, .inr (8, [.ref a0.2.1.1, .ref a0.2.2.1.1, .ref a0.2.2.2.1.1, .int v0.2.2.2.1, .ref a0.2.2.2.2.1.1, .ref a0.2.2.2.2.2.1, .ref a0.2.2.2.2.2.2.1]))] : va_W) ++ ((wPad G a0.2.2.2.2.1 v0.2.2.2.2.1.1 v0.2.2.2.2.1.2) ++ ((wStop G a0.2.2.2.2.2.1 v0.2.2.2.2.2.1.1 v0.2.2.2.2.2.1.2.1 v0.2.2.2.2.2.1.2.2) ++ (wHist G a0.2.2.1 u8.1 u8.2.1 u8.2.2)))) (wSt G a0.2.1 v0.1.1 v0.1.2.1 v0.1.2.2.1 v0.1.2.2.2) ((wSt G a0.2.2.2.1 v0.2.2.1.1 v0.2.2.1.2.1 v0.2.2.1.2.2.1 v0.2.2.1.2.2.2) ++ (wWays G a0.2.2.2.2.2.2 v0.2.2.2.2.2.2.1 v0.2.2.2.2.2.2.2.1 v0.2.2.2.2.2.2.2.2))) rfl (pi (fun r9 u10 hw => ?_))
      refine v_to (wCD G a0 u10 u8 v0.2.2.1 v0.2.2.2.1 v0.2.2.2.2.1 v0.2.2.2.2.2.1 v0.2.2.2.2.2.2) 36 [(0, .ref a0.1), (1, .int i0), (2, .int i1)] _ [.int r9] rfl rfl rfl rfl ?_
      exact v_iret S ⟨r9, (u10, u8, v0.2.2.1, v0.2.2.2.1, v0.2.2.2.2.1, v0.2.2.2.2.2.1, v0.2.2.2.2.2.2), rfl, rfl, hw⟩ dX8_guestOpens_36
    · have hw := hw.2 c6
      refine v_iconst (v := -1) (pc2 := 15) S dX8_guestOpens_14 (by decide) rfl ?_
      exact v_iret S ⟨(-1 : Int32), v0, rfl, rfl, hw⟩ dX8_guestOpens_15
set_option maxHeartbeats 4000000 in
set_option maxRecDepth 100000 in
theorem c_X8_guestShuts (l : Launch) (G : GG) (a0 : CDA) (v0 : CDV) (i0 : Int32) (i1 : Int32) (Q : Int32 → CDV → Prop) (hw : wp_X8_guestShuts v0 i0 i1 Q) : Con l G yX8_guestShuts cX8_guestShuts 3 (some .int) { frames := 5, cells := 0, slots := 0, locals := 123 } [.ref a0.1, .int i0, .int i1] (wCD G a0 v0.1 v0.2.1 v0.2.2.1 v0.2.2.2.1 v0.2.2.2.2.1 v0.2.2.2.2.2.1 v0.2.2.2.2.2.2) (PI (fun u : CDV => wCD G a0 u.1 u.2.1 u.2.2.1 u.2.2.2.1 u.2.2.2.2.1 u.2.2.2.2.2.1 u.2.2.2.2.2.2) Q) 0 0 := by
  refine con_of RX8 rfl (by decide) [(0, .ref a0.1), (1, .int i0), (2, .int i1)] rfl (Nat.le_of_ble_eq_true rfl) ?_
  intro p e s m args below meth c S hname
  refine v_iload_n (pc2 := 1) S 1 dX8_guestShuts_0 rfl rfl rfl ?_
  refine v_callS (pc2 := 4) (As := [.int i0]) (rest := []) S (c_X8_isGuest l G i0 _ hw) mf_X8_isGuest u_256 u_257 rfl rfl ⟨rfl, rfl⟩ ⟨Nat.le_of_ble_eq_true rfl, Nat.le_of_ble_eq_true rfl⟩ ⟨Nat.le_of_ble_eq_true rfl, Nat.le_of_ble_eq_true rfl⟩ (Nat.le_of_ble_eq_true rfl) dX8_guestShuts_1 (frM [] [] _) rfl (pb (fun r1 u2 br1 hw => ?_))
  refine v_to (wCD G a0 v0.1 v0.2.1 v0.2.2.1 v0.2.2.2.1 v0.2.2.2.2.1 v0.2.2.2.2.2.1 v0.2.2.2.2.2.2) 4 [(0, .ref a0.1), (1, .int i0), (2, .int i1)] _ [.int r1] rfl rfl rfl rfl ?_
  refine v_if_eq (pc2 := 7) (tgt := 14) S dX8_guestShuts_4 (by decide) rfl (fun c3 => ?_) (fun c3 => ?_)
  · have hw := hw.1 c3
    refine v_iconst (v := -1) (pc2 := 15) S dX8_guestShuts_14 (by decide) rfl ?_
    exact v_iret S ⟨(-1 : Int32), v0, rfl, rfl, hw⟩ dX8_guestShuts_15
  · have hw := hw.2 c3
    refine v_iload_n (pc2 := 8) S 2 dX8_guestShuts_7 rfl rfl rfl ?_
    refine v_callS (pc2 := 11) (As := [.int i1]) (rest := []) S (c_X8_isDoor l G i1 _ hw) mf_X8_isDoor u_488 u_489 rfl rfl ⟨rfl, rfl⟩ ⟨Nat.le_of_ble_eq_true rfl, Nat.le_of_ble_eq_true rfl⟩ ⟨Nat.le_of_ble_eq_true rfl, Nat.le_of_ble_eq_true rfl⟩ (Nat.le_of_ble_eq_true rfl) dX8_guestShuts_8 (frM [] [] _) rfl (pb (fun r4 u5 br4 hw => ?_))
    refine v_to (wCD G a0 v0.1 v0.2.1 v0.2.2.1 v0.2.2.2.1 v0.2.2.2.2.1 v0.2.2.2.2.2.1 v0.2.2.2.2.2.2) 11 [(0, .ref a0.1), (1, .int i0), (2, .int i1)] _ [.int r4] rfl rfl rfl rfl ?_
    refine v_if_ne (pc2 := 14) (tgt := 16) S dX8_guestShuts_11 (by decide) rfl (fun c6 => ?_) (fun c6 => ?_)
    · have hw := hw.1 c6
      refine v_aload_n (pc2 := 17) S 0 dX8_guestShuts_16 rfl rfl rfl ?_
      refine v_get (v := .ref a0.2.2.1.1) (pc2 := 20) S gf_X8_19 0 rfl rfl dX8_guestShuts_17 rfl ?_
      refine v_aload_n (pc2 := 21) S 0 dX8_guestShuts_20 rfl rfl rfl ?_
      refine v_get (v := .ref a0.2.1.1) (pc2 := 24) S gf_X8_12 0 rfl rfl dX8_guestShuts_21 rfl ?_
      refine v_callV (pc2 := 27) (As := [.ref a0.2.1.1]) (rest := []) S (c_X2_record l G a0.2.2.1 a0.2.1 v0.2.1 v0.1 _ hw) mf_X2_record u_469 u_470 u_471 0 2 rfl rfl rfl rfl ⟨rfl, rfl⟩ ⟨Nat.le_of_ble_eq_true rfl, Nat.le_of_ble_eq_true rfl⟩ ⟨Nat.le_of_ble_eq_true rfl, Nat.le_of_ble_eq_true rfl⟩ (Nat.le_of_ble_eq_true rfl) dX8_guestShuts_24 (frM (([(a0.1, .inr (8, [.ref a0.2.1.1, .ref a0.2.2.1.1, .ref a0.2.2.2.1.1, .int v0.2.2.2.1, .ref a0.2.2.2.2.1.1, .ref a0.2.2.2.2.2.1, .ref a0.2.2.2.2.2.2.1]))] : va_W) ++ ((wPad G a0.2.2.2.2.1 v0.2.2.2.2.1.1 v0.2.2.2.2.1.2) ++ (wStop G a0.2.2.2.2.2.1 v0.2.2.2.2.2.1.1 v0.2.2.2.2.2.1.2.1 v0.2.2.2.2.2.1.2.2))) (wHist G a0.2.2.1 v0.2.1.1 v0.2.1.2.1 v0.2.1.2.2 ++ wSt G a0.2.1 v0.1.1 v0.1.2.1 v0.1.2.2.1 v0.1.2.2.2) ((wSt G a0.2.2.2.1 v0.2.2.1.1 v0.2.2.1.2.1 v0.2.2.1.2.2.1 v0.2.2.1.2.2.2) ++ (wWays G a0.2.2.2.2.2.2 v0.2.2.2.2.2.2.1 v0.2.2.2.2.2.2.2.1 v0.2.2.2.2.2.2.2.2))) rfl (pv (fun u8 hw => ?_))
      refine v_to (wCD G a0 v0.1 u8 v0.2.2.1 v0.2.2.2.1 v0.2.2.2.2.1 v0.2.2.2.2.2.1 v0.2.2.2.2.2.2) 27 [(0, .ref a0.1), (1, .int i0), (2, .int i1)] _ [] rfl rfl rfl rfl ?_
      refine v_aload_n (pc2 := 28) S 0 dX8_guestShuts_27 rfl rfl rfl ?_
      refine v_get (v := .ref a0.2.1.1) (pc2 := 31) S gf_X8_12 0 rfl rfl dX8_guestShuts_28 rfl ?_
      refine v_iload_n (pc2 := 32) S 1 dX8_guestShuts_31 rfl rfl rfl ?_
      refine v_iload_n (pc2 := 33) S 2 dX8_guestShuts_32 rfl rfl rfl ?_
      refine v_callV (pc2 := 36) (As := [.int i0, .int i1]) (rest := []) S (c_X5_shutsAsGuest l G a0.2.1 v0.1 i0 i1 _ hw) mf_X5_shutsAsGuest u_630 u_631 u_632 0 5 rfl rfl rfl rfl ⟨rfl, rfl⟩ ⟨Nat.le_of_ble_eq_true rfl, Nat.le_of_ble_eq_true rfl⟩ ⟨Nat.le_of_ble_eq_true rfl, Nat.le_of_ble_eq_true rfl⟩ (Nat.le_of_ble_eq_true rfl) dX8_guestShuts_33 (frM (([(a0.1, .inr (8, [.ref a0.2.1.1, .ref a0.2.2.1.1, .ref a0.2.2.2.1.1, .int v0.2.2.2.1, .ref a0.2.2.2.2.1.1, .ref a0.2.2.2.2.2.1, .ref a0.2.2.2.2.2.2.1]))] : va_W) ++ ((wPad G a0.2.2.2.2.1 v0.2.2.2.2.1.1 v0.2.2.2.2.1.2) ++ ((wStop G a0.2.2.2.2.2.1 v0.2.2.2.2.2.1.1 v0.2.2.2.2.2.1.2.1 v0.2.2.2.2.2.1.2.2) ++ (wHist G a0.2.2.1 u8.1 u8.2.1 u8.2.2)))) (wSt G a0.2.1 v0.1.1 v0.1.2.1 v0.1.2.2.1 v0.1.2.2.2) ((wSt G a0.2.2.2.1 v0.2.2.1.1 v0.2.2.1.2.1 v0.2.2.1.2.2.1 v0.2.2.1.2.2.2) ++ (wWays G a0.2.2.2.2.2.2 v0.2.2.2.2.2.2.1 v0.2.2.2.2.2.2.2.1 v0.2.2.2.2.2.2.2.2))) rfl (pi (fun r9 u10 hw => ?_))
      refine v_to (wCD G a0 u10 u8 v0.2.2.1 v0.2.2.2.1 v0.2.2.2.2.1 v0.2.2.2.2.2.1 v0.2.2.2.2.2.2) 36 [(0, .ref a0.1), (1, .int i0), (2, .int i1)] _ [.int r9] rfl rfl rfl rfl ?_
      exact v_iret S ⟨r9, (u10, u8, v0.2.2.1, v0.2.2.2.1, v0.2.2.2.2.1, v0.2.2.2.2.2.1, v0.2.2.2.2.2.2), rfl, rfl, hw⟩ dX8_guestShuts_36
    · have hw := hw.2 c6
      refine v_iconst (v := -1) (pc2 := 15) S dX8_guestShuts_14 (by decide) rfl ?_
      exact v_iret S ⟨(-1 : Int32), v0, rfl, rfl, hw⟩ dX8_guestShuts_15
set_option maxHeartbeats 4000000 in
set_option maxRecDepth 100000 in
theorem c_X8_walk (l : Launch) (G : GG) (a0 : CDA) (v0 : CDV) (i0 : Int32) (i1 : Int32) (Q : Int32 → CDV → Prop) (hw : wp_X8_walk v0 i0 i1 Q) : Con l G yX8_walk cX8_walk 3 (some .int) { frames := 5, cells := 0, slots := 0, locals := 123 } [.ref a0.1, .int i0, .int i1] (wCD G a0 v0.1 v0.2.1 v0.2.2.1 v0.2.2.2.1 v0.2.2.2.2.1 v0.2.2.2.2.2.1 v0.2.2.2.2.2.2) (PI (fun u : CDV => wCD G a0 u.1 u.2.1 u.2.2.1 u.2.2.2.1 u.2.2.2.2.1 u.2.2.2.2.2.1 u.2.2.2.2.2.2) Q) 0 0 := by
  refine con_of RX8 rfl (by decide) [(0, .ref a0.1), (1, .int i0), (2, .int i1)] rfl (Nat.le_of_ble_eq_true rfl) ?_
  intro p e s m args below meth c S hname
  refine v_iload_n (pc2 := 1) S 1 dX8_walk_0 rfl rfl rfl ?_
  refine v_callS (pc2 := 4) (As := [.int i0]) (rest := []) S (c_X8_isGuest l G i0 _ hw) mf_X8_isGuest u_256 u_257 rfl rfl ⟨rfl, rfl⟩ ⟨Nat.le_of_ble_eq_true rfl, Nat.le_of_ble_eq_true rfl⟩ ⟨Nat.le_of_ble_eq_true rfl, Nat.le_of_ble_eq_true rfl⟩ (Nat.le_of_ble_eq_true rfl) dX8_walk_1 (frM [] [] _) rfl (pb (fun r1 u2 br1 hw => ?_))
  refine v_to (wCD G a0 v0.1 v0.2.1 v0.2.2.1 v0.2.2.2.1 v0.2.2.2.2.1 v0.2.2.2.2.2.1 v0.2.2.2.2.2.2) 4 [(0, .ref a0.1), (1, .int i0), (2, .int i1)] _ [.int r1] rfl rfl rfl rfl ?_
  refine v_if_eq (pc2 := 7) (tgt := 14) S dX8_walk_4 (by decide) rfl (fun c3 => ?_) (fun c3 => ?_)
  · have hw := hw.1 c3
    refine v_iconst (v := -1) (pc2 := 15) S dX8_walk_14 (by decide) rfl ?_
    exact v_iret S ⟨(-1 : Int32), v0, rfl, rfl, hw⟩ dX8_walk_15
  · have hw := hw.2 c3
    refine v_iload_n (pc2 := 8) S 2 dX8_walk_7 rfl rfl rfl ?_
    refine v_callS (pc2 := 11) (As := [.int i1]) (rest := []) S (c_X8_isDoor l G i1 _ hw) mf_X8_isDoor u_488 u_489 rfl rfl ⟨rfl, rfl⟩ ⟨Nat.le_of_ble_eq_true rfl, Nat.le_of_ble_eq_true rfl⟩ ⟨Nat.le_of_ble_eq_true rfl, Nat.le_of_ble_eq_true rfl⟩ (Nat.le_of_ble_eq_true rfl) dX8_walk_8 (frM [] [] _) rfl (pb (fun r4 u5 br4 hw => ?_))
    refine v_to (wCD G a0 v0.1 v0.2.1 v0.2.2.1 v0.2.2.2.1 v0.2.2.2.2.1 v0.2.2.2.2.2.1 v0.2.2.2.2.2.2) 11 [(0, .ref a0.1), (1, .int i0), (2, .int i1)] _ [.int r4] rfl rfl rfl rfl ?_
    refine v_if_ne (pc2 := 14) (tgt := 16) S dX8_walk_11 (by decide) rfl (fun c6 => ?_) (fun c6 => ?_)
    · have hw := hw.1 c6
      refine v_aload_n (pc2 := 17) S 0 dX8_walk_16 rfl rfl rfl ?_
      refine v_get (v := .ref a0.2.2.1.1) (pc2 := 20) S gf_X8_19 0 rfl rfl dX8_walk_17 rfl ?_
      refine v_aload_n (pc2 := 21) S 0 dX8_walk_20 rfl rfl rfl ?_
      refine v_get (v := .ref a0.2.1.1) (pc2 := 24) S gf_X8_12 0 rfl rfl dX8_walk_21 rfl ?_
      refine v_callV (pc2 := 27) (As := [.ref a0.2.1.1]) (rest := []) S (c_X2_record l G a0.2.2.1 a0.2.1 v0.2.1 v0.1 _ hw) mf_X2_record u_469 u_470 u_471 0 2 rfl rfl rfl rfl ⟨rfl, rfl⟩ ⟨Nat.le_of_ble_eq_true rfl, Nat.le_of_ble_eq_true rfl⟩ ⟨Nat.le_of_ble_eq_true rfl, Nat.le_of_ble_eq_true rfl⟩ (Nat.le_of_ble_eq_true rfl) dX8_walk_24 (frM (([(a0.1, .inr (8, [.ref a0.2.1.1, .ref a0.2.2.1.1, .ref a0.2.2.2.1.1, .int v0.2.2.2.1, .ref a0.2.2.2.2.1.1, .ref a0.2.2.2.2.2.1, .ref a0.2.2.2.2.2.2.1]))] : va_W) ++ ((wPad G a0.2.2.2.2.1 v0.2.2.2.2.1.1 v0.2.2.2.2.1.2) ++ (wStop G a0.2.2.2.2.2.1 v0.2.2.2.2.2.1.1 v0.2.2.2.2.2.1.2.1 v0.2.2.2.2.2.1.2.2))) (wHist G a0.2.2.1 v0.2.1.1 v0.2.1.2.1 v0.2.1.2.2 ++ wSt G a0.2.1 v0.1.1 v0.1.2.1 v0.1.2.2.1 v0.1.2.2.2) ((wSt G a0.2.2.2.1 v0.2.2.1.1 v0.2.2.1.2.1 v0.2.2.1.2.2.1 v0.2.2.1.2.2.2) ++ (wWays G a0.2.2.2.2.2.2 v0.2.2.2.2.2.2.1 v0.2.2.2.2.2.2.2.1 v0.2.2.2.2.2.2.2.2))) rfl (pv (fun u8 hw => ?_))
      refine v_to (wCD G a0 v0.1 u8 v0.2.2.1 v0.2.2.2.1 v0.2.2.2.2.1 v0.2.2.2.2.2.1 v0.2.2.2.2.2.2) 27 [(0, .ref a0.1), (1, .int i0), (2, .int i1)] _ [] rfl rfl rfl rfl ?_
      refine v_aload_n (pc2 := 28) S 0 dX8_walk_27 rfl rfl rfl ?_
      refine v_get (v := .ref a0.2.1.1) (pc2 := 31) S gf_X8_12 0 rfl rfl dX8_walk_28 rfl ?_
      refine v_iload_n (pc2 := 32) S 1 dX8_walk_31 rfl rfl rfl ?_
      refine v_iload_n (pc2 := 33) S 2 dX8_walk_32 rfl rfl rfl ?_
      refine v_callV (pc2 := 36) (As := [.int i0, .int i1]) (rest := []) S (c_X5_walksThrough l G a0.2.1 v0.1 i0 i1 _ hw) mf_X5_walksThrough u_642 u_643 u_644 0 5 rfl rfl rfl rfl ⟨rfl, rfl⟩ ⟨Nat.le_of_ble_eq_true rfl, Nat.le_of_ble_eq_true rfl⟩ ⟨Nat.le_of_ble_eq_true rfl, Nat.le_of_ble_eq_true rfl⟩ (Nat.le_of_ble_eq_true rfl) dX8_walk_33 (frM (([(a0.1, .inr (8, [.ref a0.2.1.1, .ref a0.2.2.1.1, .ref a0.2.2.2.1.1, .int v0.2.2.2.1, .ref a0.2.2.2.2.1.1, .ref a0.2.2.2.2.2.1, .ref a0.2.2.2.2.2.2.1]))] : va_W) ++ ((wPad G a0.2.2.2.2.1 v0.2.2.2.2.1.1 v0.2.2.2.2.1.2) ++ ((wStop G a0.2.2.2.2.2.1 v0.2.2.2.2.2.1.1 v0.2.2.2.2.2.1.2.1 v0.2.2.2.2.2.1.2.2) ++ (wHist G a0.2.2.1 u8.1 u8.2.1 u8.2.2)))) (wSt G a0.2.1 v0.1.1 v0.1.2.1 v0.1.2.2.1 v0.1.2.2.2) ((wSt G a0.2.2.2.1 v0.2.2.1.1 v0.2.2.1.2.1 v0.2.2.1.2.2.1 v0.2.2.1.2.2.2) ++ (wWays G a0.2.2.2.2.2.2 v0.2.2.2.2.2.2.1 v0.2.2.2.2.2.2.2.1 v0.2.2.2.2.2.2.2.2))) rfl (pi (fun r9 u10 hw => ?_))
      refine v_to (wCD G a0 u10 u8 v0.2.2.1 v0.2.2.2.1 v0.2.2.2.2.1 v0.2.2.2.2.2.1 v0.2.2.2.2.2.2) 36 [(0, .ref a0.1), (1, .int i0), (2, .int i1)] _ [.int r9] rfl rfl rfl rfl ?_
      exact v_iret S ⟨r9, (u10, u8, v0.2.2.1, v0.2.2.2.1, v0.2.2.2.2.1, v0.2.2.2.2.2.1, v0.2.2.2.2.2.2), rfl, rfl, hw⟩ dX8_walk_36
    · have hw := hw.2 c6
      refine v_iconst (v := -1) (pc2 := 15) S dX8_walk_14 (by decide) rfl ?_
      exact v_iret S ⟨(-1 : Int32), v0, rfl, rfl, hw⟩ dX8_walk_15
set_option maxHeartbeats 4000000 in
set_option maxRecDepth 100000 in
theorem c_X8_append (l : Launch) (G : GG) (a0 : CDA) (v0 : CDV) (i0 : Int32) (Q : Int32 → CDV → Prop) (hw : wp_X8_append v0 i0 Q) : Con l G yX8_append cX8_append 2 (some .int) { frames := 1, cells := 0, slots := 0, locals := 21 } [.ref a0.1, .int i0] (wCD G a0 v0.1 v0.2.1 v0.2.2.1 v0.2.2.2.1 v0.2.2.2.2.1 v0.2.2.2.2.2.1 v0.2.2.2.2.2.2) (PI (fun u : CDV => wCD G a0 u.1 u.2.1 u.2.2.1 u.2.2.2.1 u.2.2.2.2.1 u.2.2.2.2.2.1 u.2.2.2.2.2.2) Q) 0 0 := by
  refine con_of RX8 rfl (by decide) [(0, .ref a0.1), (1, .int i0)] rfl (Nat.le_of_ble_eq_true rfl) ?_
  intro p e s m args below meth c S hname
  refine v_iload_n (pc2 := 1) S 1 dX8_append_0 rfl rfl rfl ?_
  refine v_bipush (v := 33) (pc2 := 3) S dX8_append_1 (by decide) rfl ?_
  refine v_icmp_lt (pc2 := 6) (tgt := 12) S dX8_append_3 (by decide) rfl (fun c1 => ?_) (fun c1 => ?_)
  · have hw := hw.1 c1
    refine v_iconst (v := -1) (pc2 := 13) S dX8_append_12 (by decide) rfl ?_
    exact v_iret S ⟨(-1 : Int32), v0, rfl, rfl, hw⟩ dX8_append_13
  · have hw := hw.2 c1
    refine v_iload_n (pc2 := 7) S 1 dX8_append_6 rfl rfl rfl ?_
    refine v_bipush (v := 126) (pc2 := 9) S dX8_append_7 (by decide) rfl ?_
    refine v_icmp_le (pc2 := 12) (tgt := 14) S dX8_append_9 (by decide) rfl (fun c2 => ?_) (fun c2 => ?_)
    · have hw := hw.1 c2
      refine v_aload_n (pc2 := 15) S 0 dX8_append_14 rfl rfl rfl ?_
      refine v_get (v := .ref a0.2.2.2.2.1.1) (pc2 := 18) S gf_X8_33 0 rfl rfl dX8_append_15 rfl ?_
      refine v_getN (v := .int v0.2.2.2.2.1.2) (pc2 := 21) S gf_X8_126 1 rfl rfl dX8_append_18 rfl ?_
      refine v_bipush (v := 60) (pc2 := 23) S dX8_append_21 (by decide) rfl ?_
      refine v_icmp_lt (pc2 := 26) (tgt := 29) S dX8_append_23 (by decide) rfl (fun c3 => ?_) (fun c3 => ?_)
      · have hw := hw.1 c3
        refine v_aload_n (pc2 := 30) S 0 dX8_append_29 rfl rfl rfl ?_
        refine v_get (v := .ref a0.2.2.2.2.1.1) (pc2 := 33) S gf_X8_33 0 rfl rfl dX8_append_30 rfl ?_
        refine v_iload_n (pc2 := 34) S 1 dX8_append_33 rfl rfl rfl ?_
        refine v_callV (pc2 := 37) (As := [.int i0]) (rest := []) S (c_X4_add l G a0.2.2.2.2.1 v0.2.2.2.2.1 i0 _ hw) mf_X4_add u_677 u_678 u_679 0 4 rfl rfl rfl rfl ⟨rfl, rfl⟩ ⟨Nat.le_of_ble_eq_true rfl, Nat.le_of_ble_eq_true rfl⟩ ⟨Nat.le_of_ble_eq_true rfl, Nat.le_of_ble_eq_true rfl⟩ (Nat.le_of_ble_eq_true rfl) dX8_append_34 (frM ([(a0.1, .inr (8, [.ref a0.2.1.1, .ref a0.2.2.1.1, .ref a0.2.2.2.1.1, .int v0.2.2.2.1, .ref a0.2.2.2.2.1.1, .ref a0.2.2.2.2.2.1, .ref a0.2.2.2.2.2.2.1]))]) (wPad G a0.2.2.2.2.1 v0.2.2.2.2.1.1 v0.2.2.2.2.1.2) ((wStop G a0.2.2.2.2.2.1 v0.2.2.2.2.2.1.1 v0.2.2.2.2.2.1.2.1 v0.2.2.2.2.2.1.2.2) ++ ((wHist G a0.2.2.1 v0.2.1.1 v0.2.1.2.1 v0.2.1.2.2) ++ ((wSt G a0.2.1 v0.1.1 v0.1.2.1 v0.1.2.2.1 v0.1.2.2.2) ++ ((wSt G a0.2.2.2.1 v0.2.2.1.1 v0.2.2.1.2.1 v0.2.2.1.2.2.1 v0.2.2.1.2.2.2) ++ (wWays G a0.2.2.2.2.2.2 v0.2.2.2.2.2.2.1 v0.2.2.2.2.2.2.2.1 v0.2.2.2.2.2.2.2.2)))))) rfl (pi (fun r4 u5 hw => ?_))
        refine v_to (wCD G a0 v0.1 v0.2.1 v0.2.2.1 v0.2.2.2.1 u5 v0.2.2.2.2.2.1 v0.2.2.2.2.2.2) 37 [(0, .ref a0.1), (1, .int i0)] _ [.int r4] rfl rfl rfl rfl ?_
        exact v_iret S ⟨r4, (v0.1, v0.2.1, v0.2.2.1, v0.2.2.2.1, u5, v0.2.2.2.2.2.1, v0.2.2.2.2.2.2), rfl, rfl, hw⟩ dX8_append_37
      · have hw := hw.2 c3
        refine v_bipush (v := -3) (pc2 := 28) S dX8_append_26 (by decide) rfl ?_
        exact v_iret S ⟨(-3 : Int32), v0, rfl, rfl, hw⟩ dX8_append_28
    · have hw := hw.2 c2
      refine v_iconst (v := -1) (pc2 := 13) S dX8_append_12 (by decide) rfl ?_
      exact v_iret S ⟨(-1 : Int32), v0, rfl, rfl, hw⟩ dX8_append_13
set_option maxHeartbeats 4000000 in
set_option maxRecDepth 100000 in
theorem c_X8_clear (l : Launch) (G : GG) (a0 : CDA) (v0 : CDV) (Q : Int32 → CDV → Prop) (hw : wp_X8_clear v0 Q) : Con l G yX8_clear cX8_clear 1 (some .int) { frames := 1, cells := 0, slots := 0, locals := 21 } [.ref a0.1] (wCD G a0 v0.1 v0.2.1 v0.2.2.1 v0.2.2.2.1 v0.2.2.2.2.1 v0.2.2.2.2.2.1 v0.2.2.2.2.2.2) (PI (fun u : CDV => wCD G a0 u.1 u.2.1 u.2.2.1 u.2.2.2.1 u.2.2.2.2.1 u.2.2.2.2.2.1 u.2.2.2.2.2.2) Q) 0 0 := by
  refine con_of RX8 rfl (by decide) [(0, .ref a0.1)] rfl (Nat.le_of_ble_eq_true rfl) ?_
  intro p e s m args below meth c S hname
  refine v_aload_n (pc2 := 1) S 0 dX8_clear_0 rfl rfl rfl ?_
  refine v_get (v := .ref a0.2.2.2.2.1.1) (pc2 := 4) S gf_X8_33 0 rfl rfl dX8_clear_1 rfl ?_
  refine v_callV (pc2 := 7) (As := []) (rest := []) S (c_X4_empty l G a0.2.2.2.2.1 v0.2.2.2.2.1 _ hw) mf_X4_empty u_685 u_686 u_687 0 4 rfl rfl rfl rfl ⟨rfl, rfl⟩ ⟨Nat.le_of_ble_eq_true rfl, Nat.le_of_ble_eq_true rfl⟩ ⟨Nat.le_of_ble_eq_true rfl, Nat.le_of_ble_eq_true rfl⟩ (Nat.le_of_ble_eq_true rfl) dX8_clear_4 (frM ([(a0.1, .inr (8, [.ref a0.2.1.1, .ref a0.2.2.1.1, .ref a0.2.2.2.1.1, .int v0.2.2.2.1, .ref a0.2.2.2.2.1.1, .ref a0.2.2.2.2.2.1, .ref a0.2.2.2.2.2.2.1]))]) (wPad G a0.2.2.2.2.1 v0.2.2.2.2.1.1 v0.2.2.2.2.1.2) ((wStop G a0.2.2.2.2.2.1 v0.2.2.2.2.2.1.1 v0.2.2.2.2.2.1.2.1 v0.2.2.2.2.2.1.2.2) ++ ((wHist G a0.2.2.1 v0.2.1.1 v0.2.1.2.1 v0.2.1.2.2) ++ ((wSt G a0.2.1 v0.1.1 v0.1.2.1 v0.1.2.2.1 v0.1.2.2.2) ++ ((wSt G a0.2.2.2.1 v0.2.2.1.1 v0.2.2.1.2.1 v0.2.2.1.2.2.1 v0.2.2.1.2.2.2) ++ (wWays G a0.2.2.2.2.2.2 v0.2.2.2.2.2.2.1 v0.2.2.2.2.2.2.2.1 v0.2.2.2.2.2.2.2.2)))))) rfl (pi (fun r1 u2 hw => ?_))
  refine v_to (wCD G a0 v0.1 v0.2.1 v0.2.2.1 v0.2.2.2.1 u2 v0.2.2.2.2.2.1 v0.2.2.2.2.2.2) 7 [(0, .ref a0.1)] _ [.int r1] rfl rfl rfl rfl ?_
  exact v_iret S ⟨r1, (v0.1, v0.2.1, v0.2.2.1, v0.2.2.2.1, u2, v0.2.2.2.2.2.1, v0.2.2.2.2.2.2), rfl, rfl, hw⟩ dX8_clear_7
set_option maxHeartbeats 4000000 in
set_option maxRecDepth 100000 in
theorem c_X8_fault (l : Launch) (G : GG) (a0 : CDA) (v0 : CDV) (Q : Int32 → Prop) (hw : wp_X8_fault v0 Q) : Con l G yX8_fault cX8_fault 1 (some .int) { frames := 3, cells := 0, slots := 0, locals := 63 } [.ref a0.1] (wCD G a0 v0.1 v0.2.1 v0.2.2.1 v0.2.2.2.1 v0.2.2.2.2.1 v0.2.2.2.2.2.1 v0.2.2.2.2.2.2) (PI (fun _ : Unit => wCD G a0 v0.1 v0.2.1 v0.2.2.1 v0.2.2.2.1 v0.2.2.2.2.1 v0.2.2.2.2.2.1 v0.2.2.2.2.2.2) (fun r _ => Q r)) 0 0 := by
  refine con_of RX8 rfl (by decide) [(0, .ref a0.1)] rfl (Nat.le_of_ble_eq_true rfl) ?_
  intro p e s m args below meth c S hname
  refine v_aload_n (pc2 := 1) S 0 dX8_fault_0 rfl rfl rfl ?_
  refine v_get (v := .ref a0.2.2.2.2.1.1) (pc2 := 4) S gf_X8_33 0 rfl rfl dX8_fault_1 rfl ?_
  refine v_callV (pc2 := 7) (As := []) (rest := []) S (c_X4_faultPlace l G a0.2.2.2.2.1 v0.2.2.2.2.1 _ hw) mf_X4_faultPlace u_693 u_694 u_695 0 4 rfl rfl rfl rfl ⟨rfl, rfl⟩ ⟨Nat.le_of_ble_eq_true rfl, Nat.le_of_ble_eq_true rfl⟩ ⟨Nat.le_of_ble_eq_true rfl, Nat.le_of_ble_eq_true rfl⟩ (Nat.le_of_ble_eq_true rfl) dX8_fault_4 (frM ([(a0.1, .inr (8, [.ref a0.2.1.1, .ref a0.2.2.1.1, .ref a0.2.2.2.1.1, .int v0.2.2.2.1, .ref a0.2.2.2.2.1.1, .ref a0.2.2.2.2.2.1, .ref a0.2.2.2.2.2.2.1]))]) (wPad G a0.2.2.2.2.1 v0.2.2.2.2.1.1 v0.2.2.2.2.1.2) ((wStop G a0.2.2.2.2.2.1 v0.2.2.2.2.2.1.1 v0.2.2.2.2.2.1.2.1 v0.2.2.2.2.2.1.2.2) ++ ((wHist G a0.2.2.1 v0.2.1.1 v0.2.1.2.1 v0.2.1.2.2) ++ ((wSt G a0.2.1 v0.1.1 v0.1.2.1 v0.1.2.2.1 v0.1.2.2.2) ++ ((wSt G a0.2.2.2.1 v0.2.2.1.1 v0.2.2.1.2.1 v0.2.2.1.2.2.1 v0.2.2.1.2.2.2) ++ (wWays G a0.2.2.2.2.2.2 v0.2.2.2.2.2.2.1 v0.2.2.2.2.2.2.2.1 v0.2.2.2.2.2.2.2.2)))))) rfl (pi (fun r1 u2 hw => ?_))
  refine v_to (wCD G a0 v0.1 v0.2.1 v0.2.2.1 v0.2.2.2.1 v0.2.2.2.2.1 v0.2.2.2.2.2.1 v0.2.2.2.2.2.2) 7 [(0, .ref a0.1)] _ [.int r1] rfl rfl rfl rfl ?_
  exact v_iret S ⟨r1, (), rfl, rfl, hw⟩ dX8_fault_7
set_option maxHeartbeats 4000000 in
set_option maxRecDepth 100000 in
theorem c_X8_runDeedAt (l : Launch) (G : GG) (a0 : CDA) (v0 : CDV) (i0 : Int32) (Q : Int32 → CDV → Prop) (hw : wp_X8_runDeedAt v0 i0 Q) : Con l G yX8_runDeedAt cX8_runDeedAt 5 (some .int) { frames := 5, cells := 0, slots := 0, locals := 117 } [.ref a0.1, .int i0] (wCD G a0 v0.1 v0.2.1 v0.2.2.1 v0.2.2.2.1 v0.2.2.2.2.1 v0.2.2.2.2.2.1 v0.2.2.2.2.2.2) (PI (fun u : CDV => wCD G a0 u.1 u.2.1 u.2.2.1 u.2.2.2.1 u.2.2.2.2.1 u.2.2.2.2.2.1 u.2.2.2.2.2.2) Q) 0 0 := by
  refine con_of RX8 rfl (by decide) [(0, .ref a0.1), (1, .int i0)] rfl (Nat.le_of_ble_eq_true rfl) ?_
  intro p e s m args below meth c S hname
  refine v_aload_n (pc2 := 1) S 0 dX8_runDeedAt_0 rfl rfl rfl ?_
  refine v_get (v := .ref a0.2.2.2.2.1.1) (pc2 := 4) S gf_X8_33 0 rfl rfl dX8_runDeedAt_1 rfl ?_
  refine v_iload_n (pc2 := 5) S 1 dX8_runDeedAt_4 rfl rfl rfl ?_
  refine v_callV (pc2 := 8) (As := [.int i0]) (rest := []) S (c_X4_doorOfDeed l G a0.2.2.2.2.1 v0.2.2.2.2.1 i0 _ hw) mf_X4_doorOfDeed u_714 u_715 u_716 0 4 rfl rfl rfl rfl ⟨rfl, rfl⟩ ⟨Nat.le_of_ble_eq_true rfl, Nat.le_of_ble_eq_true rfl⟩ ⟨Nat.le_of_ble_eq_true rfl, Nat.le_of_ble_eq_true rfl⟩ (Nat.le_of_ble_eq_true rfl) dX8_runDeedAt_5 (frM ([(a0.1, .inr (8, [.ref a0.2.1.1, .ref a0.2.2.1.1, .ref a0.2.2.2.1.1, .int v0.2.2.2.1, .ref a0.2.2.2.2.1.1, .ref a0.2.2.2.2.2.1, .ref a0.2.2.2.2.2.2.1]))]) (wPad G a0.2.2.2.2.1 v0.2.2.2.2.1.1 v0.2.2.2.2.1.2) ((wStop G a0.2.2.2.2.2.1 v0.2.2.2.2.2.1.1 v0.2.2.2.2.2.1.2.1 v0.2.2.2.2.2.1.2.2) ++ ((wHist G a0.2.2.1 v0.2.1.1 v0.2.1.2.1 v0.2.1.2.2) ++ ((wSt G a0.2.1 v0.1.1 v0.1.2.1 v0.1.2.2.1 v0.1.2.2.2) ++ ((wSt G a0.2.2.2.1 v0.2.2.1.1 v0.2.2.1.2.1 v0.2.2.1.2.2.1 v0.2.2.1.2.2.2) ++ (wWays G a0.2.2.2.2.2.2 v0.2.2.2.2.2.2.1 v0.2.2.2.2.2.2.2.1 v0.2.2.2.2.2.2.2.2)))))) rfl (pi (fun r1 u2 hw => ?_))
  refine v_to (wCD G a0 v0.1 v0.2.1 v0.2.2.1 v0.2.2.2.1 v0.2.2.2.2.1 v0.2.2.2.2.2.1 v0.2.2.2.2.2.2) 8 [(0, .ref a0.1), (1, .int i0)] _ [.int r1] rfl rfl rfl rfl ?_
  refine v_istore_n (lv2 := [(0, .ref a0.1), (1, .int i0), (2, .int r1)]) (pc2 := 9) S dX8_runDeedAt_8 rfl (by decide) [1, 2, 0] rfl rfl ?_
  refine v_aload_n (pc2 := 10) S 0 dX8_runDeedAt_9 rfl rfl rfl ?_
  refine v_get (v := .ref a0.2.2.2.2.1.1) (pc2 := 13) S gf_X8_33 0 rfl rfl dX8_runDeedAt_10 rfl ?_
  refine v_iload_n (pc2 := 14) S 1 dX8_runDeedAt_13 rfl rfl rfl ?_
  refine v_callV (pc2 := 17) (As := [.int i0]) (rest := []) S (c_X4_letterOfDeed l G a0.2.2.2.2.1 v0.2.2.2.2.1 i0 _ hw) mf_X4_letterOfDeed u_726 u_727 u_728 0 4 rfl rfl rfl rfl ⟨rfl, rfl⟩ ⟨Nat.le_of_ble_eq_true rfl, Nat.le_of_ble_eq_true rfl⟩ ⟨Nat.le_of_ble_eq_true rfl, Nat.le_of_ble_eq_true rfl⟩ (Nat.le_of_ble_eq_true rfl) dX8_runDeedAt_14 (frM ([(a0.1, .inr (8, [.ref a0.2.1.1, .ref a0.2.2.1.1, .ref a0.2.2.2.1.1, .int v0.2.2.2.1, .ref a0.2.2.2.2.1.1, .ref a0.2.2.2.2.2.1, .ref a0.2.2.2.2.2.2.1]))]) (wPad G a0.2.2.2.2.1 v0.2.2.2.2.1.1 v0.2.2.2.2.1.2) ((wStop G a0.2.2.2.2.2.1 v0.2.2.2.2.2.1.1 v0.2.2.2.2.2.1.2.1 v0.2.2.2.2.2.1.2.2) ++ ((wHist G a0.2.2.1 v0.2.1.1 v0.2.1.2.1 v0.2.1.2.2) ++ ((wSt G a0.2.1 v0.1.1 v0.1.2.1 v0.1.2.2.1 v0.1.2.2.2) ++ ((wSt G a0.2.2.2.1 v0.2.2.1.1 v0.2.2.1.2.1 v0.2.2.1.2.2.1 v0.2.2.1.2.2.2) ++ (wWays G a0.2.2.2.2.2.2 v0.2.2.2.2.2.2.1 v0.2.2.2.2.2.2.2.1 v0.2.2.2.2.2.2.2.2)))))) rfl (pi (fun r3 u4 hw => ?_))
  refine v_to (wCD G a0 v0.1 v0.2.1 v0.2.2.1 v0.2.2.2.1 v0.2.2.2.2.1 v0.2.2.2.2.2.1 v0.2.2.2.2.2.2) 17 [(0, .ref a0.1), (1, .int i0), (2, .int r1)] _ [.int r3] rfl rfl rfl rfl ?_
  refine v_istore_n (lv2 := [(0, .ref a0.1), (1, .int i0), (2, .int r1), (3, .int r3)]) (pc2 := 18) S dX8_runDeedAt_17 rfl (by decide) [1, 2, 3, 0] rfl rfl ?_
  refine v_aload_n (pc2 := 19) S 0 dX8_runDeedAt_18 rfl rfl rfl ?_
  refine v_get (v := .ref a0.2.2.2.2.1.1) (pc2 := 22) S gf_X8_33 0 rfl rfl dX8_runDeedAt_19 rfl ?_
  refine v_iload_n (pc2 := 23) S 1 dX8_runDeedAt_22 rfl rfl rfl ?_
  refine v_callV (pc2 := 26) (As := [.int i0]) (rest := []) S (c_X4_isGuestsDeed l G a0.2.2.2.2.1 v0.2.2.2.2.1 i0 _ hw) mf_X4_isGuestsDeed u_730 u_723 u_724 0 4 rfl rfl rfl rfl ⟨rfl, rfl⟩ ⟨Nat.le_of_ble_eq_true rfl, Nat.le_of_ble_eq_true rfl⟩ ⟨Nat.le_of_ble_eq_true rfl, Nat.le_of_ble_eq_true rfl⟩ (Nat.le_of_ble_eq_true rfl) dX8_runDeedAt_23 (frM ([(a0.1, .inr (8, [.ref a0.2.1.1, .ref a0.2.2.1.1, .ref a0.2.2.2.1.1, .int v0.2.2.2.1, .ref a0.2.2.2.2.1.1, .ref a0.2.2.2.2.2.1, .ref a0.2.2.2.2.2.2.1]))]) (wPad G a0.2.2.2.2.1 v0.2.2.2.2.1.1 v0.2.2.2.2.1.2) ((wStop G a0.2.2.2.2.2.1 v0.2.2.2.2.2.1.1 v0.2.2.2.2.2.1.2.1 v0.2.2.2.2.2.1.2.2) ++ ((wHist G a0.2.2.1 v0.2.1.1 v0.2.1.2.1 v0.2.1.2.2) ++ ((wSt G a0.2.1 v0.1.1 v0.1.2.1 v0.1.2.2.1 v0.1.2.2.2) ++ ((wSt G a0.2.2.2.1 v0.2.2.1.1 v0.2.2.1.2.1 v0.2.2.1.2.2.1 v0.2.2.1.2.2.2) ++ (wWays G a0.2.2.2.2.2.2 v0.2.2.2.2.2.2.1 v0.2.2.2.2.2.2.2.1 v0.2.2.2.2.2.2.2.2)))))) rfl (pb (fun r5 u6 br5 hw => ?_))
  refine v_to (wCD G a0 v0.1 v0.2.1 v0.2.2.1 v0.2.2.2.1 v0.2.2.2.2.1 v0.2.2.2.2.2.1 v0.2.2.2.2.2.2) 26 [(0, .ref a0.1), (1, .int i0), (2, .int r1), (3, .int r3)] _ [.int r5] rfl rfl rfl rfl ?_
  refine v_if_ne (pc2 := 29) (tgt := 55) S dX8_runDeedAt_26 (by decide) rfl (fun c7 => ?_) (fun c7 => ?_)
  · have hw := hw.1 c7
    refine v_aload_n (pc2 := 56) S 0 dX8_runDeedAt_55 rfl rfl rfl ?_
    refine v_get (v := .ref a0.2.2.2.2.1.1) (pc2 := 59) S gf_X8_33 0 rfl rfl dX8_runDeedAt_56 rfl ?_
    refine v_iload_n (pc2 := 60) S 1 dX8_runDeedAt_59 rfl rfl rfl ?_
    refine v_callV (pc2 := 63) (As := [.int i0]) (rest := []) S (c_X4_guestOfDeed l G a0.2.2.2.2.1 v0.2.2.2.2.1 i0 _ hw) mf_X4_guestOfDeed u_731 u_732 u_733 0 4 rfl rfl rfl rfl ⟨rfl, rfl⟩ ⟨Nat.le_of_ble_eq_true rfl, Nat.le_of_ble_eq_true rfl⟩ ⟨Nat.le_of_ble_eq_true rfl, Nat.le_of_ble_eq_true rfl⟩ (Nat.le_of_ble_eq_true rfl) dX8_runDeedAt_60 (frM ([(a0.1, .inr (8, [.ref a0.2.1.1, .ref a0.2.2.1.1, .ref a0.2.2.2.1.1, .int v0.2.2.2.1, .ref a0.2.2.2.2.1.1, .ref a0.2.2.2.2.2.1, .ref a0.2.2.2.2.2.2.1]))]) (wPad G a0.2.2.2.2.1 v0.2.2.2.2.1.1 v0.2.2.2.2.1.2) ((wStop G a0.2.2.2.2.2.1 v0.2.2.2.2.2.1.1 v0.2.2.2.2.2.1.2.1 v0.2.2.2.2.2.1.2.2) ++ ((wHist G a0.2.2.1 v0.2.1.1 v0.2.1.2.1 v0.2.1.2.2) ++ ((wSt G a0.2.1 v0.1.1 v0.1.2.1 v0.1.2.2.1 v0.1.2.2.2) ++ ((wSt G a0.2.2.2.1 v0.2.2.1.1 v0.2.2.1.2.1 v0.2.2.1.2.2.1 v0.2.2.1.2.2.2) ++ (wWays G a0.2.2.2.2.2.2 v0.2.2.2.2.2.2.1 v0.2.2.2.2.2.2.2.1 v0.2.2.2.2.2.2.2.2)))))) rfl (pi (fun r8 u9 hw => ?_))
    refine v_to (wCD G a0 v0.1 v0.2.1 v0.2.2.1 v0.2.2.2.1 v0.2.2.2.2.1 v0.2.2.2.2.2.1 v0.2.2.2.2.2.2) 63 [(0, .ref a0.1), (1, .int i0), (2, .int r1), (3, .int r3)] _ [.int r8] rfl rfl rfl rfl ?_
    refine v_istore (lv2 := [(0, .ref a0.1), (1, .int i0), (2, .int r1), (3, .int r3), (4, .int r8)]) (pc2 := 65) S dX8_runDeedAt_63 (by decide) [1, 2, 3, 4, 0] rfl rfl ?_
    refine v_iload_n (pc2 := 66) S 3 dX8_runDeedAt_65 rfl rfl rfl ?_
    refine v_bipush (v := 119) (pc2 := 68) S dX8_runDeedAt_66 (by decide) rfl ?_
    refine v_icmp_ne (pc2 := 71) (tgt := 82) S dX8_runDeedAt_68 (by decide) rfl (fun c10 => ?_) (fun c10 => ?_)
    · have hw := hw.1 c10
      refine v_iload_n (pc2 := 83) S 3 dX8_runDeedAt_82 rfl rfl rfl ?_
      refine v_bipush (v := 111) (pc2 := 85) S dX8_runDeedAt_83 (by decide) rfl ?_
      refine v_icmp_ne (pc2 := 88) (tgt := 101) S dX8_runDeedAt_85 (by decide) rfl (fun c11 => ?_) (fun c11 => ?_)
      · have hw := hw.1 c11
        refine v_aload_n (pc2 := 102) S 0 dX8_runDeedAt_101 rfl rfl rfl ?_
        refine v_get (v := .ref a0.2.1.1) (pc2 := 105) S gf_X8_12 0 rfl rfl dX8_runDeedAt_102 rfl ?_
        refine v_iload (pc2 := 107) S 4 dX8_runDeedAt_105 rfl rfl ?_
        refine v_iload_n (pc2 := 108) S 2 dX8_runDeedAt_107 rfl rfl rfl ?_
        refine v_callV (pc2 := 111) (As := [.int r8, .int r1]) (rest := []) S (c_X5_shutsAsGuest l G a0.2.1 v0.1 r8 r1 _ hw) mf_X5_shutsAsGuest u_630 u_631 u_632 0 5 rfl rfl rfl rfl ⟨rfl, rfl⟩ ⟨Nat.le_of_ble_eq_true rfl, Nat.le_of_ble_eq_true rfl⟩ ⟨Nat.le_of_ble_eq_true rfl, Nat.le_of_ble_eq_true rfl⟩ (Nat.le_of_ble_eq_true rfl) dX8_runDeedAt_108 (frM (([(a0.1, .inr (8, [.ref a0.2.1.1, .ref a0.2.2.1.1, .ref a0.2.2.2.1.1, .int v0.2.2.2.1, .ref a0.2.2.2.2.1.1, .ref a0.2.2.2.2.2.1, .ref a0.2.2.2.2.2.2.1]))] : va_W) ++ ((wPad G a0.2.2.2.2.1 v0.2.2.2.2.1.1 v0.2.2.2.2.1.2) ++ ((wStop G a0.2.2.2.2.2.1 v0.2.2.2.2.2.1.1 v0.2.2.2.2.2.1.2.1 v0.2.2.2.2.2.1.2.2) ++ (wHist G a0.2.2.1 v0.2.1.1 v0.2.1.2.1 v0.2.1.2.2)))) (wSt G a0.2.1 v0.1.1 v0.1.2.1 v0.1.2.2.1 v0.1.2.2.2) ((wSt G a0.2.2.2.1 v0.2.2.1.1 v0.2.2.1.2.1 v0.2.2.1.2.2.1 v0.2.2.1.2.2.2) ++ (wWays G a0.2.2.2.2.2.2 v0.2.2.2.2.2.2.1 v0.2.2.2.2.2.2.2.1 v0.2.2.2.2.2.2.2.2))) rfl (pi (fun r12 u13 hw => ?_))
        refine v_to (wCD G a0 u13 v0.2.1 v0.2.2.1 v0.2.2.2.1 v0.2.2.2.2.1 v0.2.2.2.2.2.1 v0.2.2.2.2.2.2) 111 [(0, .ref a0.1), (1, .int i0), (2, .int r1), (3, .int r3), (4, .int r8)] _ [.int r12] rfl rfl rfl rfl ?_
        exact v_iret S ⟨r12, (u13, v0.2.1, v0.2.2.1, v0.2.2.2.1, v0.2.2.2.2.1, v0.2.2.2.2.2.1, v0.2.2.2.2.2.2), rfl, rfl, hw⟩ dX8_runDeedAt_111
      · have hw := hw.2 c11
        refine v_aload_n (pc2 := 89) S 0 dX8_runDeedAt_88 rfl rfl rfl ?_
        refine v_get (v := .ref a0.2.1.1) (pc2 := 92) S gf_X8_12 0 rfl rfl dX8_runDeedAt_89 rfl ?_
        refine v_iload (pc2 := 94) S 4 dX8_runDeedAt_92 rfl rfl ?_
        refine v_iload_n (pc2 := 95) S 2 dX8_runDeedAt_94 rfl rfl rfl ?_
        refine v_callV (pc2 := 98) (As := [.int r8, .int r1]) (rest := []) S (c_X5_opensAsGuest l G a0.2.1 v0.1 r8 r1 _ hw) mf_X5_opensAsGuest u_622 u_623 u_624 0 5 rfl rfl rfl rfl ⟨rfl, rfl⟩ ⟨Nat.le_of_ble_eq_true rfl, Nat.le_of_ble_eq_true rfl⟩ ⟨Nat.le_of_ble_eq_true rfl, Nat.le_of_ble_eq_true rfl⟩ (Nat.le_of_ble_eq_true rfl) dX8_runDeedAt_95 (frM (([(a0.1, .inr (8, [.ref a0.2.1.1, .ref a0.2.2.1.1, .ref a0.2.2.2.1.1, .int v0.2.2.2.1, .ref a0.2.2.2.2.1.1, .ref a0.2.2.2.2.2.1, .ref a0.2.2.2.2.2.2.1]))] : va_W) ++ ((wPad G a0.2.2.2.2.1 v0.2.2.2.2.1.1 v0.2.2.2.2.1.2) ++ ((wStop G a0.2.2.2.2.2.1 v0.2.2.2.2.2.1.1 v0.2.2.2.2.2.1.2.1 v0.2.2.2.2.2.1.2.2) ++ (wHist G a0.2.2.1 v0.2.1.1 v0.2.1.2.1 v0.2.1.2.2)))) (wSt G a0.2.1 v0.1.1 v0.1.2.1 v0.1.2.2.1 v0.1.2.2.2) ((wSt G a0.2.2.2.1 v0.2.2.1.1 v0.2.2.1.2.1 v0.2.2.1.2.2.1 v0.2.2.1.2.2.2) ++ (wWays G a0.2.2.2.2.2.2 v0.2.2.2.2.2.2.1 v0.2.2.2.2.2.2.2.1 v0.2.2.2.2.2.2.2.2))) rfl (pi (fun r14 u15 hw => ?_))
        refine v_to (wCD G a0 u15 v0.2.1 v0.2.2.1 v0.2.2.2.1 v0.2.2.2.2.1 v0.2.2.2.2.2.1 v0.2.2.2.2.2.2) 98 [(0, .ref a0.1), (1, .int i0), (2, .int r1), (3, .int r3), (4, .int r8)] _ [.int r14] rfl rfl rfl rfl ?_
        refine v_goto (tgt := 111) S dX8_runDeedAt_98 (by decide) ?_
        exact v_iret S ⟨r14, (u15, v0.2.1, v0.2.2.1, v0.2.2.2.1, v0.2.2.2.2.1, v0.2.2.2.2.2.1, v0.2.2.2.2.2.2), rfl, rfl, hw⟩ dX8_runDeedAt_111
    · have hw := hw.2 c10
      refine v_aload_n (pc2 := 72) S 0 dX8_runDeedAt_71 rfl rfl rfl ?_
      refine v_get (v := .ref a0.2.1.1) (pc2 := 75) S gf_X8_12 0 rfl rfl dX8_runDeedAt_72 rfl ?_
      refine v_iload (pc2 := 77) S 4 dX8_runDeedAt_75 rfl rfl ?_
      refine v_iload_n (pc2 := 78) S 2 dX8_runDeedAt_77 rfl rfl rfl ?_
      refine v_callV (pc2 := 81) (As := [.int r8, .int r1]) (rest := []) S (c_X5_walksThrough l G a0.2.1 v0.1 r8 r1 _ hw) mf_X5_walksThrough u_642 u_643 u_644 0 5 rfl rfl rfl rfl ⟨rfl, rfl⟩ ⟨Nat.le_of_ble_eq_true rfl, Nat.le_of_ble_eq_true rfl⟩ ⟨Nat.le_of_ble_eq_true rfl, Nat.le_of_ble_eq_true rfl⟩ (Nat.le_of_ble_eq_true rfl) dX8_runDeedAt_78 (frM (([(a0.1, .inr (8, [.ref a0.2.1.1, .ref a0.2.2.1.1, .ref a0.2.2.2.1.1, .int v0.2.2.2.1, .ref a0.2.2.2.2.1.1, .ref a0.2.2.2.2.2.1, .ref a0.2.2.2.2.2.2.1]))] : va_W) ++ ((wPad G a0.2.2.2.2.1 v0.2.2.2.2.1.1 v0.2.2.2.2.1.2) ++ ((wStop G a0.2.2.2.2.2.1 v0.2.2.2.2.2.1.1 v0.2.2.2.2.2.1.2.1 v0.2.2.2.2.2.1.2.2) ++ (wHist G a0.2.2.1 v0.2.1.1 v0.2.1.2.1 v0.2.1.2.2)))) (wSt G a0.2.1 v0.1.1 v0.1.2.1 v0.1.2.2.1 v0.1.2.2.2) ((wSt G a0.2.2.2.1 v0.2.2.1.1 v0.2.2.1.2.1 v0.2.2.1.2.2.1 v0.2.2.1.2.2.2) ++ (wWays G a0.2.2.2.2.2.2 v0.2.2.2.2.2.2.1 v0.2.2.2.2.2.2.2.1 v0.2.2.2.2.2.2.2.2))) rfl (pi (fun r16 u17 hw => ?_))
      refine v_to (wCD G a0 u17 v0.2.1 v0.2.2.1 v0.2.2.2.1 v0.2.2.2.2.1 v0.2.2.2.2.2.1 v0.2.2.2.2.2.2) 81 [(0, .ref a0.1), (1, .int i0), (2, .int r1), (3, .int r3), (4, .int r8)] _ [.int r16] rfl rfl rfl rfl ?_
      exact v_iret S ⟨r16, (u17, v0.2.1, v0.2.2.1, v0.2.2.2.1, v0.2.2.2.2.1, v0.2.2.2.2.2.1, v0.2.2.2.2.2.2), rfl, rfl, hw⟩ dX8_runDeedAt_81
  · have hw := hw.2 c7
    refine v_iload_n (pc2 := 30) S 3 dX8_runDeedAt_29 rfl rfl rfl ?_
    refine v_bipush (v := 111) (pc2 := 32) S dX8_runDeedAt_30 (by decide) rfl ?_
    refine v_icmp_ne (pc2 := 35) (tgt := 46) S dX8_runDeedAt_32 (by decide) rfl (fun c18 => ?_) (fun c18 => ?_)
    · have hw := hw.1 c18
      refine v_aload_n (pc2 := 47) S 0 dX8_runDeedAt_46 rfl rfl rfl ?_
      refine v_get (v := .ref a0.2.1.1) (pc2 := 50) S gf_X8_12 0 rfl rfl dX8_runDeedAt_47 rfl ?_
      refine v_iload_n (pc2 := 51) S 2 dX8_runDeedAt_50 rfl rfl rfl ?_
      refine v_callV (pc2 := 54) (As := [.int r1]) (rest := []) S (c_X5_servantShuts l G a0.2.1 v0.1 r1 _ hw) mf_X5_servantShuts u_576 u_577 u_578 0 5 rfl rfl rfl rfl ⟨rfl, rfl⟩ ⟨Nat.le_of_ble_eq_true rfl, Nat.le_of_ble_eq_true rfl⟩ ⟨Nat.le_of_ble_eq_true rfl, Nat.le_of_ble_eq_true rfl⟩ (Nat.le_of_ble_eq_true rfl) dX8_runDeedAt_51 (frM (([(a0.1, .inr (8, [.ref a0.2.1.1, .ref a0.2.2.1.1, .ref a0.2.2.2.1.1, .int v0.2.2.2.1, .ref a0.2.2.2.2.1.1, .ref a0.2.2.2.2.2.1, .ref a0.2.2.2.2.2.2.1]))] : va_W) ++ ((wPad G a0.2.2.2.2.1 v0.2.2.2.2.1.1 v0.2.2.2.2.1.2) ++ ((wStop G a0.2.2.2.2.2.1 v0.2.2.2.2.2.1.1 v0.2.2.2.2.2.1.2.1 v0.2.2.2.2.2.1.2.2) ++ (wHist G a0.2.2.1 v0.2.1.1 v0.2.1.2.1 v0.2.1.2.2)))) (wSt G a0.2.1 v0.1.1 v0.1.2.1 v0.1.2.2.1 v0.1.2.2.2) ((wSt G a0.2.2.2.1 v0.2.2.1.1 v0.2.2.1.2.1 v0.2.2.1.2.2.1 v0.2.2.1.2.2.2) ++ (wWays G a0.2.2.2.2.2.2 v0.2.2.2.2.2.2.1 v0.2.2.2.2.2.2.2.1 v0.2.2.2.2.2.2.2.2))) rfl (pi (fun r19 u20 hw => ?_))
      refine v_to (wCD G a0 u20 v0.2.1 v0.2.2.1 v0.2.2.2.1 v0.2.2.2.2.1 v0.2.2.2.2.2.1 v0.2.2.2.2.2.2) 54 [(0, .ref a0.1), (1, .int i0), (2, .int r1), (3, .int r3)] _ [.int r19] rfl rfl rfl rfl ?_
      exact v_iret S ⟨r19, (u20, v0.2.1, v0.2.2.1, v0.2.2.2.1, v0.2.2.2.2.1, v0.2.2.2.2.2.1, v0.2.2.2.2.2.2), rfl, rfl, hw⟩ dX8_runDeedAt_54
    · have hw := hw.2 c18
      refine v_aload_n (pc2 := 36) S 0 dX8_runDeedAt_35 rfl rfl rfl ?_
      refine v_get (v := .ref a0.2.1.1) (pc2 := 39) S gf_X8_12 0 rfl rfl dX8_runDeedAt_36 rfl ?_
      refine v_iload_n (pc2 := 40) S 2 dX8_runDeedAt_39 rfl rfl rfl ?_
      refine v_callV (pc2 := 43) (As := [.int r1]) (rest := []) S (c_X5_servantOpens l G a0.2.1 v0.1 r1 _ hw) mf_X5_servantOpens u_547 u_548 u_549 0 5 rfl rfl rfl rfl ⟨rfl, rfl⟩ ⟨Nat.le_of_ble_eq_true rfl, Nat.le_of_ble_eq_true rfl⟩ ⟨Nat.le_of_ble_eq_true rfl, Nat.le_of_ble_eq_true rfl⟩ (Nat.le_of_ble_eq_true rfl) dX8_runDeedAt_40 (frM (([(a0.1, .inr (8, [.ref a0.2.1.1, .ref a0.2.2.1.1, .ref a0.2.2.2.1.1, .int v0.2.2.2.1, .ref a0.2.2.2.2.1.1, .ref a0.2.2.2.2.2.1, .ref a0.2.2.2.2.2.2.1]))] : va_W) ++ ((wPad G a0.2.2.2.2.1 v0.2.2.2.2.1.1 v0.2.2.2.2.1.2) ++ ((wStop G a0.2.2.2.2.2.1 v0.2.2.2.2.2.1.1 v0.2.2.2.2.2.1.2.1 v0.2.2.2.2.2.1.2.2) ++ (wHist G a0.2.2.1 v0.2.1.1 v0.2.1.2.1 v0.2.1.2.2)))) (wSt G a0.2.1 v0.1.1 v0.1.2.1 v0.1.2.2.1 v0.1.2.2.2) ((wSt G a0.2.2.2.1 v0.2.2.1.1 v0.2.2.1.2.1 v0.2.2.1.2.2.1 v0.2.2.1.2.2.2) ++ (wWays G a0.2.2.2.2.2.2 v0.2.2.2.2.2.2.1 v0.2.2.2.2.2.2.2.1 v0.2.2.2.2.2.2.2.2))) rfl (pi (fun r21 u22 hw => ?_))
      refine v_to (wCD G a0 u22 v0.2.1 v0.2.2.1 v0.2.2.2.1 v0.2.2.2.2.1 v0.2.2.2.2.2.1 v0.2.2.2.2.2.2) 43 [(0, .ref a0.1), (1, .int i0), (2, .int r1), (3, .int r3)] _ [.int r21] rfl rfl rfl rfl ?_
      refine v_goto (tgt := 54) S dX8_runDeedAt_43 (by decide) ?_
      exact v_iret S ⟨r21, (u22, v0.2.1, v0.2.2.1, v0.2.2.2.1, v0.2.2.2.2.1, v0.2.2.2.2.2.1, v0.2.2.2.2.2.2), rfl, rfl, hw⟩ dX8_runDeedAt_54
set_option maxHeartbeats 4000000 in
set_option maxRecDepth 100000 in
theorem c_X8_run (l : Launch) (G : GG) (a0 : CDA) (v0 : CDV) (Q : Int32 → CDV → Prop) (hw : wp_X8_run v0 Q) : Con l G yX8_run cX8_run 5 (some .int) { frames := 6, cells := 0, slots := 0, locals := 141 } [.ref a0.1] (wCD G a0 v0.1 v0.2.1 v0.2.2.1 v0.2.2.2.1 v0.2.2.2.2.1 v0.2.2.2.2.2.1 v0.2.2.2.2.2.2) (PI (fun u : CDV => wCD G a0 u.1 u.2.1 u.2.2.1 u.2.2.2.1 u.2.2.2.2.1 u.2.2.2.2.2.1 u.2.2.2.2.2.2) Q) 0 0 := by
  refine con_of RX8 rfl (by decide) [(0, .ref a0.1)] rfl (Nat.le_of_ble_eq_true rfl) ?_
  intro p e s m args below meth c S hname
  have L39 : ∀ (kk : Nat) (x1 : Int32) (x2 : Int32) (x3 : Int32) (w0 : CDV), wp_X8_run_L39 Q kk x1 x2 x3 w0 → V p l e { frames := 6, cells := 0, slots := 0, locals := 141 } s m args below meth c G (va_A (wCD G a0 v0.1 v0.2.1 v0.2.2.1 v0.2.2.2.1 v0.2.2.2.2.1 v0.2.2.2.2.2.1 v0.2.2.2.2.2.2) s.heap.size) 5 0 0 (MQ below (EQ G (wCD G a0 v0.1 v0.2.1 v0.2.2.1 v0.2.2.2.1 v0.2.2.2.2.1 v0.2.2.2.2.2.1 v0.2.2.2.2.2.2) s.heap.size (PI (fun u : CDV => wCD G a0 u.1 u.2.1 u.2.2.1 u.2.2.2.1 u.2.2.2.2.1 u.2.2.2.2.2.1 u.2.2.2.2.2.2) Q)) args s 0 0 (va_A (wCD G a0 v0.1 v0.2.1 v0.2.2.1 v0.2.2.2.1 v0.2.2.2.2.1 v0.2.2.2.2.2.1 v0.2.2.2.2.2.2) s.heap.size)) (wCD G a0 w0.1 w0.2.1 w0.2.2.1 w0.2.2.2.1 w0.2.2.2.2.1 w0.2.2.2.2.2.1 w0.2.2.2.2.2.2) 39 [(0, .ref a0.1), (1, .int x1), (2, .int x2), (3, .int x3)] [] := by
    intro kk
    induction kk with
    | zero => intro x1 x2 x3 w0 hw; exact hw.elim
    | succ n ih =>
      intro x1 x2 x3 w0 hw
      refine v_iload_n (pc2 := 40) S 3 dX8_run_39 rfl rfl rfl ?_
      refine v_bipush (v := 60) (pc2 := 42) S dX8_run_40 (by decide) rfl ?_
      refine v_icmp_ge (pc2 := 45) (tgt := 112) S dX8_run_42 (by decide) rfl (fun c8 => ?_) (fun c8 => ?_)
      · have hw := hw.1 c8
        refine v_aload_n (pc2 := 113) S 0 dX8_run_112 rfl rfl rfl ?_
        refine v_get (v := .ref a0.2.2.2.2.1.1) (pc2 := 116) S gf_X8_33 0 rfl rfl dX8_run_113 rfl ?_
        refine v_callV (pc2 := 119) (As := []) (rest := []) S (c_X4_empty l G a0.2.2.2.2.1 w0.2.2.2.2.1 _ hw) mf_X4_empty u_685 u_686 u_687 0 4 rfl rfl rfl rfl ⟨rfl, rfl⟩ ⟨Nat.le_of_ble_eq_true rfl, Nat.le_of_ble_eq_true rfl⟩ ⟨Nat.le_of_ble_eq_true rfl, Nat.le_of_ble_eq_true rfl⟩ (Nat.le_of_ble_eq_true rfl) dX8_run_116 (frM ([(a0.1, .inr (8, [.ref a0.2.1.1, .ref a0.2.2.1.1, .ref a0.2.2.2.1.1, .int w0.2.2.2.1, .ref a0.2.2.2.2.1.1, .ref a0.2.2.2.2.2.1, .ref a0.2.2.2.2.2.2.1]))]) (wPad G a0.2.2.2.2.1 w0.2.2.2.2.1.1 w0.2.2.2.2.1.2) ((wStop G a0.2.2.2.2.2.1 w0.2.2.2.2.2.1.1 w0.2.2.2.2.2.1.2.1 w0.2.2.2.2.2.1.2.2) ++ ((wHist G a0.2.2.1 w0.2.1.1 w0.2.1.2.1 w0.2.1.2.2) ++ ((wSt G a0.2.1 w0.1.1 w0.1.2.1 w0.1.2.2.1 w0.1.2.2.2) ++ ((wSt G a0.2.2.2.1 w0.2.2.1.1 w0.2.2.1.2.1 w0.2.2.1.2.2.1 w0.2.2.1.2.2.2) ++ (wWays G a0.2.2.2.2.2.2 w0.2.2.2.2.2.2.1 w0.2.2.2.2.2.2.2.1 w0.2.2.2.2.2.2.2.2)))))) rfl (pi (fun r9 u10 hw => ?_))
        refine v_to (wCD G a0 w0.1 w0.2.1 w0.2.2.1 w0.2.2.2.1 u10 w0.2.2.2.2.2.1 w0.2.2.2.2.2.2) 119 [(0, .ref a0.1), (1, .int x1), (2, .int x2), (3, .int x3)] _ [.int r9] rfl rfl rfl rfl ?_
        refine v_pop (pc2 := 120) S dX8_run_119 rfl rfl ?_
        refine v_iload_n (pc2 := 121) S 2 dX8_run_120 rfl rfl rfl ?_
        exact v_iret S ⟨x2, (w0.1, w0.2.1, w0.2.2.1, w0.2.2.2.1, u10, w0.2.2.2.2.2.1, w0.2.2.2.2.2.2), rfl, rfl, hw⟩ dX8_run_121
      · have hw := hw.2 c8
        refine v_iload_n (pc2 := 46) S 1 dX8_run_45 rfl rfl rfl ?_
        refine v_aload_n (pc2 := 47) S 0 dX8_run_46 rfl rfl rfl ?_
        refine v_get (v := .ref a0.2.2.2.2.1.1) (pc2 := 50) S gf_X8_33 0 rfl rfl dX8_run_47 rfl ?_
        refine v_getN (v := .int w0.2.2.2.2.1.2) (pc2 := 53) S gf_X8_126 1 rfl rfl dX8_run_50 rfl ?_
        refine v_icmp_ge (pc2 := 56) (tgt := 112) S dX8_run_53 (by decide) rfl (fun c11 => ?_) (fun c11 => ?_)
        · have hw := hw.1 c11
          refine v_aload_n (pc2 := 113) S 0 dX8_run_112 rfl rfl rfl ?_
          refine v_get (v := .ref a0.2.2.2.2.1.1) (pc2 := 116) S gf_X8_33 0 rfl rfl dX8_run_113 rfl ?_
          refine v_callV (pc2 := 119) (As := []) (rest := []) S (c_X4_empty l G a0.2.2.2.2.1 w0.2.2.2.2.1 _ hw) mf_X4_empty u_685 u_686 u_687 0 4 rfl rfl rfl rfl ⟨rfl, rfl⟩ ⟨Nat.le_of_ble_eq_true rfl, Nat.le_of_ble_eq_true rfl⟩ ⟨Nat.le_of_ble_eq_true rfl, Nat.le_of_ble_eq_true rfl⟩ (Nat.le_of_ble_eq_true rfl) dX8_run_116 (frM ([(a0.1, .inr (8, [.ref a0.2.1.1, .ref a0.2.2.1.1, .ref a0.2.2.2.1.1, .int w0.2.2.2.1, .ref a0.2.2.2.2.1.1, .ref a0.2.2.2.2.2.1, .ref a0.2.2.2.2.2.2.1]))]) (wPad G a0.2.2.2.2.1 w0.2.2.2.2.1.1 w0.2.2.2.2.1.2) ((wStop G a0.2.2.2.2.2.1 w0.2.2.2.2.2.1.1 w0.2.2.2.2.2.1.2.1 w0.2.2.2.2.2.1.2.2) ++ ((wHist G a0.2.2.1 w0.2.1.1 w0.2.1.2.1 w0.2.1.2.2) ++ ((wSt G a0.2.1 w0.1.1 w0.1.2.1 w0.1.2.2.1 w0.1.2.2.2) ++ ((wSt G a0.2.2.2.1 w0.2.2.1.1 w0.2.2.1.2.1 w0.2.2.1.2.2.1 w0.2.2.1.2.2.2) ++ (wWays G a0.2.2.2.2.2.2 w0.2.2.2.2.2.2.1 w0.2.2.2.2.2.2.2.1 w0.2.2.2.2.2.2.2.2)))))) rfl (pi (fun r12 u13 hw => ?_))
          refine v_to (wCD G a0 w0.1 w0.2.1 w0.2.2.1 w0.2.2.2.1 u13 w0.2.2.2.2.2.1 w0.2.2.2.2.2.2) 119 [(0, .ref a0.1), (1, .int x1), (2, .int x2), (3, .int x3)] _ [.int r12] rfl rfl rfl rfl ?_
          refine v_pop (pc2 := 120) S dX8_run_119 rfl rfl ?_
          refine v_iload_n (pc2 := 121) S 2 dX8_run_120 rfl rfl rfl ?_
          exact v_iret S ⟨x2, (w0.1, w0.2.1, w0.2.2.1, w0.2.2.2.1, u13, w0.2.2.2.2.2.1, w0.2.2.2.2.2.2), rfl, rfl, hw⟩ dX8_run_121
        · have hw := hw.2 c11
          refine v_aload_n (pc2 := 57) S 0 dX8_run_56 rfl rfl rfl ?_
          refine v_get (v := .ref a0.2.2.2.2.2.1) (pc2 := 60) S gf_X8_40 0 rfl rfl dX8_run_57 rfl ?_
          refine v_callV (pc2 := 63) (As := []) (rest := []) S (c_X6_happened l G a0.2.2.2.2.2.1 w0.2.2.2.2.2.1 _ hw) mf_X6_happened u_669 u_670 u_671 0 6 rfl rfl rfl rfl ⟨rfl, rfl⟩ ⟨Nat.le_of_ble_eq_true rfl, Nat.le_of_ble_eq_true rfl⟩ ⟨Nat.le_of_ble_eq_true rfl, Nat.le_of_ble_eq_true rfl⟩ (Nat.le_of_ble_eq_true rfl) dX8_run_60 (frM (([(a0.1, .inr (8, [.ref a0.2.1.1, .ref a0.2.2.1.1, .ref a0.2.2.2.1.1, .int w0.2.2.2.1, .ref a0.2.2.2.2.1.1, .ref a0.2.2.2.2.2.1, .ref a0.2.2.2.2.2.2.1]))] : va_W) ++ (wPad G a0.2.2.2.2.1 w0.2.2.2.2.1.1 w0.2.2.2.2.1.2)) (wStop G a0.2.2.2.2.2.1 w0.2.2.2.2.2.1.1 w0.2.2.2.2.2.1.2.1 w0.2.2.2.2.2.1.2.2) ((wHist G a0.2.2.1 w0.2.1.1 w0.2.1.2.1 w0.2.1.2.2) ++ ((wSt G a0.2.1 w0.1.1 w0.1.2.1 w0.1.2.2.1 w0.1.2.2.2) ++ ((wSt G a0.2.2.2.1 w0.2.2.1.1 w0.2.2.1.2.1 w0.2.2.1.2.2.1 w0.2.2.1.2.2.2) ++ (wWays G a0.2.2.2.2.2.2 w0.2.2.2.2.2.2.1 w0.2.2.2.2.2.2.2.1 w0.2.2.2.2.2.2.2.2))))) rfl (pb (fun r14 u15 br14 hw => ?_))
          refine v_to (wCD G a0 w0.1 w0.2.1 w0.2.2.1 w0.2.2.2.1 w0.2.2.2.2.1 w0.2.2.2.2.2.1 w0.2.2.2.2.2.2) 63 [(0, .ref a0.1), (1, .int x1), (2, .int x2), (3, .int x3)] _ [.int r14] rfl rfl rfl rfl ?_
          refine v_if_ne (pc2 := 66) (tgt := 112) S dX8_run_63 (by decide) rfl (fun c16 => ?_) (fun c16 => ?_)
          · have hw := hw.1 c16
            refine v_aload_n (pc2 := 113) S 0 dX8_run_112 rfl rfl rfl ?_
            refine v_get (v := .ref a0.2.2.2.2.1.1) (pc2 := 116) S gf_X8_33 0 rfl rfl dX8_run_113 rfl ?_
            refine v_callV (pc2 := 119) (As := []) (rest := []) S (c_X4_empty l G a0.2.2.2.2.1 w0.2.2.2.2.1 _ hw) mf_X4_empty u_685 u_686 u_687 0 4 rfl rfl rfl rfl ⟨rfl, rfl⟩ ⟨Nat.le_of_ble_eq_true rfl, Nat.le_of_ble_eq_true rfl⟩ ⟨Nat.le_of_ble_eq_true rfl, Nat.le_of_ble_eq_true rfl⟩ (Nat.le_of_ble_eq_true rfl) dX8_run_116 (frM ([(a0.1, .inr (8, [.ref a0.2.1.1, .ref a0.2.2.1.1, .ref a0.2.2.2.1.1, .int w0.2.2.2.1, .ref a0.2.2.2.2.1.1, .ref a0.2.2.2.2.2.1, .ref a0.2.2.2.2.2.2.1]))]) (wPad G a0.2.2.2.2.1 w0.2.2.2.2.1.1 w0.2.2.2.2.1.2) ((wStop G a0.2.2.2.2.2.1 w0.2.2.2.2.2.1.1 w0.2.2.2.2.2.1.2.1 w0.2.2.2.2.2.1.2.2) ++ ((wHist G a0.2.2.1 w0.2.1.1 w0.2.1.2.1 w0.2.1.2.2) ++ ((wSt G a0.2.1 w0.1.1 w0.1.2.1 w0.1.2.2.1 w0.1.2.2.2) ++ ((wSt G a0.2.2.2.1 w0.2.2.1.1 w0.2.2.1.2.1 w0.2.2.1.2.2.1 w0.2.2.1.2.2.2) ++ (wWays G a0.2.2.2.2.2.2 w0.2.2.2.2.2.2.1 w0.2.2.2.2.2.2.2.1 w0.2.2.2.2.2.2.2.2)))))) rfl (pi (fun r17 u18 hw => ?_))
            refine v_to (wCD G a0 w0.1 w0.2.1 w0.2.2.1 w0.2.2.2.1 u18 w0.2.2.2.2.2.1 w0.2.2.2.2.2.2) 119 [(0, .ref a0.1), (1, .int x1), (2, .int x2), (3, .int x3)] _ [.int r17] rfl rfl rfl rfl ?_
            refine v_pop (pc2 := 120) S dX8_run_119 rfl rfl ?_
            refine v_iload_n (pc2 := 121) S 2 dX8_run_120 rfl rfl rfl ?_
            exact v_iret S ⟨x2, (w0.1, w0.2.1, w0.2.2.1, w0.2.2.2.1, u18, w0.2.2.2.2.2.1, w0.2.2.2.2.2.2), rfl, rfl, hw⟩ dX8_run_121
          · have hw := hw.2 c16
            refine v_aload_n (pc2 := 67) S 0 dX8_run_66 rfl rfl rfl ?_
            refine v_iload_n (pc2 := 68) S 1 dX8_run_67 rfl rfl rfl ?_
            refine v_callV (pc2 := 71) (As := [.int x1]) (rest := []) S (c_X8_runDeedAt l G a0 w0 x1 _ hw) mf_X8_runDeedAt u_710 u_712 u_17 0 8 rfl rfl rfl rfl ⟨rfl, rfl⟩ ⟨Nat.le_of_ble_eq_true rfl, Nat.le_of_ble_eq_true rfl⟩ ⟨Nat.le_of_ble_eq_true rfl, Nat.le_of_ble_eq_true rfl⟩ (Nat.le_of_ble_eq_true rfl) dX8_run_68 (frW _) rfl (pi (fun r19 u20 hw => ?_))
            refine v_to (wCD G a0 u20.1 u20.2.1 u20.2.2.1 u20.2.2.2.1 u20.2.2.2.2.1 u20.2.2.2.2.2.1 u20.2.2.2.2.2.2) 71 [(0, .ref a0.1), (1, .int x1), (2, .int x2), (3, .int x3)] _ [.int r19] rfl rfl rfl rfl ?_
            refine v_istore (lv2 := [(0, .ref a0.1), (1, .int x1), (2, .int x2), (3, .int x3), (4, .int r19)]) (pc2 := 73) S dX8_run_71 (by decide) [1, 2, 3, 4, 0] rfl rfl ?_
            refine v_iload (pc2 := 75) S 4 dX8_run_73 rfl rfl ?_
            refine v_bipush (v := 10) (pc2 := 77) S dX8_run_75 (by decide) rfl ?_
            refine v_icmp_ge (pc2 := 80) (tgt := 94) S dX8_run_77 (by decide) rfl (fun c21 => ?_) (fun c21 => ?_)
            · have hw := hw.1 c21
              obtain ⟨z22, ez22⟩ : ∃ y : Int32, y = x2 + (1 : Int32) := ⟨_, rfl⟩
              have hw := hw z22 ez22
              refine v_iinc (v := z22) (lv2 := [(0, .ref a0.1), (1, .int x1), (2, .int z22), (3, .int x3), (4, .int r19)]) (pc2 := 97) S 2 dX8_run_94 rfl (by rw [ez22]; rfl) (by decide) [1, 2, 0, 3, 4] rfl rfl ?_
              refine v_aload_n (pc2 := 98) S 0 dX8_run_97 rfl rfl rfl ?_
              refine v_get (v := .ref a0.2.2.2.2.1.1) (pc2 := 101) S gf_X8_33 0 rfl rfl dX8_run_98 rfl ?_
              refine v_iload_n (pc2 := 102) S 1 dX8_run_101 rfl rfl rfl ?_
              refine v_callV (pc2 := 105) (As := [.int x1]) (rest := []) S (c_X4_placeOfNextDeed l G a0.2.2.2.2.1 u20.2.2.2.2.1 x1 _ hw) mf_X4_placeOfNextDeed u_739 u_740 u_741 0 4 rfl rfl rfl rfl ⟨rfl, rfl⟩ ⟨Nat.le_of_ble_eq_true rfl, Nat.le_of_ble_eq_true rfl⟩ ⟨Nat.le_of_ble_eq_true rfl, Nat.le_of_ble_eq_true rfl⟩ (Nat.le_of_ble_eq_true rfl) dX8_run_102 (frM ([(a0.1, .inr (8, [.ref a0.2.1.1, .ref a0.2.2.1.1, .ref a0.2.2.2.1.1, .int u20.2.2.2.1, .ref a0.2.2.2.2.1.1, .ref a0.2.2.2.2.2.1, .ref a0.2.2.2.2.2.2.1]))]) (wPad G a0.2.2.2.2.1 u20.2.2.2.2.1.1 u20.2.2.2.2.1.2) ((wStop G a0.2.2.2.2.2.1 u20.2.2.2.2.2.1.1 u20.2.2.2.2.2.1.2.1 u20.2.2.2.2.2.1.2.2) ++ ((wHist G a0.2.2.1 u20.2.1.1 u20.2.1.2.1 u20.2.1.2.2) ++ ((wSt G a0.2.1 u20.1.1 u20.1.2.1 u20.1.2.2.1 u20.1.2.2.2) ++ ((wSt G a0.2.2.2.1 u20.2.2.1.1 u20.2.2.1.2.1 u20.2.2.1.2.2.1 u20.2.2.1.2.2.2) ++ (wWays G a0.2.2.2.2.2.2 u20.2.2.2.2.2.2.1 u20.2.2.2.2.2.2.2.1 u20.2.2.2.2.2.2.2.2)))))) rfl (pi (fun r23 u24 hw => ?_))
              refine v_to (wCD G a0 u20.1 u20.2.1 u20.2.2.1 u20.2.2.2.1 u20.2.2.2.2.1 u20.2.2.2.2.2.1 u20.2.2.2.2.2.2) 105 [(0, .ref a0.1), (1, .int x1), (2, .int z22), (3, .int x3), (4, .int r19)] _ [.int r23] rfl rfl rfl rfl ?_
              refine v_istore_n (lv2 := [(0, .ref a0.1), (1, .int r23), (2, .int z22), (3, .int x3), (4, .int r19)]) (pc2 := 106) S dX8_run_105 rfl (by decide) [1, 0, 2, 3, 4] rfl rfl ?_
              obtain ⟨z25, ez25⟩ : ∃ y : Int32, y = x3 + (1 : Int32) := ⟨_, rfl⟩
              have hw := hw z25 ez25
              refine v_iinc (v := z25) (lv2 := [(0, .ref a0.1), (1, .int r23), (2, .int z22), (3, .int z25), (4, .int r19)]) (pc2 := 109) S 3 dX8_run_106 rfl (by rw [ez25]; rfl) (by decide) [1, 2, 3, 0, 4] rfl rfl ?_
              refine v_goto (tgt := 39) S dX8_run_109 (by decide) ?_
              refine v_lv [(0, .ref a0.1), (1, .int r23), (2, .int z22), (3, .int z25)] [0, 1, 2, 3] rfl ?_
              exact ih r23 z22 z25 u20 hw
            · have hw := hw.2 c21
              refine v_aload_n (pc2 := 81) S 0 dX8_run_80 rfl rfl rfl ?_
              refine v_get (v := .ref a0.2.2.2.2.2.1) (pc2 := 84) S gf_X8_40 0 rfl rfl dX8_run_81 rfl ?_
              refine v_iload (pc2 := 86) S 4 dX8_run_84 rfl rfl ?_
              refine v_iload_n (pc2 := 87) S 3 dX8_run_86 rfl rfl rfl ?_
              refine v_iload_n (pc2 := 88) S 1 dX8_run_87 rfl rfl rfl ?_
              refine v_callV (pc2 := 91) (As := [.int r19, .int x3, .int x1]) (rest := []) S (c_X6_remember l G a0.2.2.2.2.2.1 u20.2.2.2.2.2.1 r19 x3 x1 _ hw) mf_X6_remember u_735 u_736 u_737 0 6 rfl rfl rfl rfl ⟨rfl, rfl⟩ ⟨Nat.le_of_ble_eq_true rfl, Nat.le_of_ble_eq_true rfl⟩ ⟨Nat.le_of_ble_eq_true rfl, Nat.le_of_ble_eq_true rfl⟩ (Nat.le_of_ble_eq_true rfl) dX8_run_88 (frM (([(a0.1, .inr (8, [.ref a0.2.1.1, .ref a0.2.2.1.1, .ref a0.2.2.2.1.1, .int u20.2.2.2.1, .ref a0.2.2.2.2.1.1, .ref a0.2.2.2.2.2.1, .ref a0.2.2.2.2.2.2.1]))] : va_W) ++ (wPad G a0.2.2.2.2.1 u20.2.2.2.2.1.1 u20.2.2.2.2.1.2)) (wStop G a0.2.2.2.2.2.1 u20.2.2.2.2.2.1.1 u20.2.2.2.2.2.1.2.1 u20.2.2.2.2.2.1.2.2) ((wHist G a0.2.2.1 u20.2.1.1 u20.2.1.2.1 u20.2.1.2.2) ++ ((wSt G a0.2.1 u20.1.1 u20.1.2.1 u20.1.2.2.1 u20.1.2.2.2) ++ ((wSt G a0.2.2.2.1 u20.2.2.1.1 u20.2.2.1.2.1 u20.2.2.1.2.2.1 u20.2.2.1.2.2.2) ++ (wWays G a0.2.2.2.2.2.2 u20.2.2.2.2.2.2.1 u20.2.2.2.2.2.2.2.1 u20.2.2.2.2.2.2.2.2))))) rfl (pv (fun u27 hw => ?_))
              refine v_to (wCD G a0 u20.1 u20.2.1 u20.2.2.1 u20.2.2.2.1 u20.2.2.2.2.1 u27 u20.2.2.2.2.2.2) 91 [(0, .ref a0.1), (1, .int x1), (2, .int x2), (3, .int x3), (4, .int r19)] _ [] rfl rfl rfl rfl ?_
              refine v_goto (tgt := 106) S dX8_run_91 (by decide) ?_
              obtain ⟨z28, ez28⟩ : ∃ y : Int32, y = x3 + (1 : Int32) := ⟨_, rfl⟩
              have hw := hw z28 ez28
              refine v_iinc (v := z28) (lv2 := [(0, .ref a0.1), (1, .int x1), (2, .int x2), (3, .int z28), (4, .int r19)]) (pc2 := 109) S 3 dX8_run_106 rfl (by rw [ez28]; rfl) (by decide) [1, 2, 3, 0, 4] rfl rfl ?_
              refine v_goto (tgt := 39) S dX8_run_109 (by decide) ?_
              refine v_lv [(0, .ref a0.1), (1, .int x1), (2, .int x2), (3, .int z28)] [0, 1, 2, 3] rfl ?_
              exact ih x1 x2 z28 (u20.1, u20.2.1, u20.2.2.1, u20.2.2.2.1, u20.2.2.2.2.1, u27, u20.2.2.2.2.2.2) hw
  refine v_aload_n (pc2 := 1) S 0 dX8_run_0 rfl rfl rfl ?_
  refine v_get (v := .ref a0.2.2.2.2.1.1) (pc2 := 4) S gf_X8_33 0 rfl rfl dX8_run_1 rfl ?_
  refine v_callV (pc2 := 7) (As := []) (rest := []) S (c_X4_faultPlace l G a0.2.2.2.2.1 v0.2.2.2.2.1 _ hw) mf_X4_faultPlace u_693 u_694 u_695 0 4 rfl rfl rfl rfl ⟨rfl, rfl⟩ ⟨Nat.le_of_ble_eq_true rfl, Nat.le_of_ble_eq_true rfl⟩ ⟨Nat.le_of_ble_eq_true rfl, Nat.le_of_ble_eq_true rfl⟩ (Nat.le_of_ble_eq_true rfl) dX8_run_4 (frM ([(a0.1, .inr (8, [.ref a0.2.1.1, .ref a0.2.2.1.1, .ref a0.2.2.2.1.1, .int v0.2.2.2.1, .ref a0.2.2.2.2.1.1, .ref a0.2.2.2.2.2.1, .ref a0.2.2.2.2.2.2.1]))]) (wPad G a0.2.2.2.2.1 v0.2.2.2.2.1.1 v0.2.2.2.2.1.2) ((wStop G a0.2.2.2.2.2.1 v0.2.2.2.2.2.1.1 v0.2.2.2.2.2.1.2.1 v0.2.2.2.2.2.1.2.2) ++ ((wHist G a0.2.2.1 v0.2.1.1 v0.2.1.2.1 v0.2.1.2.2) ++ ((wSt G a0.2.1 v0.1.1 v0.1.2.1 v0.1.2.2.1 v0.1.2.2.2) ++ ((wSt G a0.2.2.2.1 v0.2.2.1.1 v0.2.2.1.2.1 v0.2.2.1.2.2.1 v0.2.2.1.2.2.2) ++ (wWays G a0.2.2.2.2.2.2 v0.2.2.2.2.2.2.1 v0.2.2.2.2.2.2.2.1 v0.2.2.2.2.2.2.2.2)))))) rfl (pi (fun r1 u2 hw => ?_))
  refine v_to (wCD G a0 v0.1 v0.2.1 v0.2.2.1 v0.2.2.2.1 v0.2.2.2.2.1 v0.2.2.2.2.2.1 v0.2.2.2.2.2.2) 7 [(0, .ref a0.1)] _ [.int r1] rfl rfl rfl rfl ?_
  refine v_bipush (v := -4) (pc2 := 9) S dX8_run_7 (by decide) rfl ?_
  refine v_icmp_eq (pc2 := 12) (tgt := 15) S dX8_run_9 (by decide) rfl (fun c3 => ?_) (fun c3 => ?_)
  · have hw := hw.1 c3
    refine v_aload_n (pc2 := 16) S 0 dX8_run_15 rfl rfl rfl ?_
    refine v_get (v := .ref a0.2.2.1.1) (pc2 := 19) S gf_X8_19 0 rfl rfl dX8_run_16 rfl ?_
    refine v_aload_n (pc2 := 20) S 0 dX8_run_19 rfl rfl rfl ?_
    refine v_get (v := .ref a0.2.1.1) (pc2 := 23) S gf_X8_12 0 rfl rfl dX8_run_20 rfl ?_
    refine v_callV (pc2 := 26) (As := [.ref a0.2.1.1]) (rest := []) S (c_X2_record l G a0.2.2.1 a0.2.1 v0.2.1 v0.1 _ hw) mf_X2_record u_469 u_470 u_471 0 2 rfl rfl rfl rfl ⟨rfl, rfl⟩ ⟨Nat.le_of_ble_eq_true rfl, Nat.le_of_ble_eq_true rfl⟩ ⟨Nat.le_of_ble_eq_true rfl, Nat.le_of_ble_eq_true rfl⟩ (Nat.le_of_ble_eq_true rfl) dX8_run_23 (frM (([(a0.1, .inr (8, [.ref a0.2.1.1, .ref a0.2.2.1.1, .ref a0.2.2.2.1.1, .int v0.2.2.2.1, .ref a0.2.2.2.2.1.1, .ref a0.2.2.2.2.2.1, .ref a0.2.2.2.2.2.2.1]))] : va_W) ++ ((wPad G a0.2.2.2.2.1 v0.2.2.2.2.1.1 v0.2.2.2.2.1.2) ++ (wStop G a0.2.2.2.2.2.1 v0.2.2.2.2.2.1.1 v0.2.2.2.2.2.1.2.1 v0.2.2.2.2.2.1.2.2))) (wHist G a0.2.2.1 v0.2.1.1 v0.2.1.2.1 v0.2.1.2.2 ++ wSt G a0.2.1 v0.1.1 v0.1.2.1 v0.1.2.2.1 v0.1.2.2.2) ((wSt G a0.2.2.2.1 v0.2.2.1.1 v0.2.2.1.2.1 v0.2.2.1.2.2.1 v0.2.2.1.2.2.2) ++ (wWays G a0.2.2.2.2.2.2 v0.2.2.2.2.2.2.1 v0.2.2.2.2.2.2.2.1 v0.2.2.2.2.2.2.2.2))) rfl (pv (fun u5 hw => ?_))
    refine v_to (wCD G a0 v0.1 u5 v0.2.2.1 v0.2.2.2.1 v0.2.2.2.2.1 v0.2.2.2.2.2.1 v0.2.2.2.2.2.2) 26 [(0, .ref a0.1)] _ [] rfl rfl rfl rfl ?_
    refine v_aload_n (pc2 := 27) S 0 dX8_run_26 rfl rfl rfl ?_
    refine v_get (v := .ref a0.2.2.2.2.2.1) (pc2 := 30) S gf_X8_40 0 rfl rfl dX8_run_27 rfl ?_
    refine v_callV (pc2 := 33) (As := []) (rest := []) S (c_X6_forget l G a0.2.2.2.2.2.1 v0.2.2.2.2.2.1 _ hw) mf_X6_forget u_706 u_707 u_708 0 6 rfl rfl rfl rfl ⟨rfl, rfl⟩ ⟨Nat.le_of_ble_eq_true rfl, Nat.le_of_ble_eq_true rfl⟩ ⟨Nat.le_of_ble_eq_true rfl, Nat.le_of_ble_eq_true rfl⟩ (Nat.le_of_ble_eq_true rfl) dX8_run_30 (frM (([(a0.1, .inr (8, [.ref a0.2.1.1, .ref a0.2.2.1.1, .ref a0.2.2.2.1.1, .int v0.2.2.2.1, .ref a0.2.2.2.2.1.1, .ref a0.2.2.2.2.2.1, .ref a0.2.2.2.2.2.2.1]))] : va_W) ++ (wPad G a0.2.2.2.2.1 v0.2.2.2.2.1.1 v0.2.2.2.2.1.2)) (wStop G a0.2.2.2.2.2.1 v0.2.2.2.2.2.1.1 v0.2.2.2.2.2.1.2.1 v0.2.2.2.2.2.1.2.2) ((wHist G a0.2.2.1 u5.1 u5.2.1 u5.2.2) ++ ((wSt G a0.2.1 v0.1.1 v0.1.2.1 v0.1.2.2.1 v0.1.2.2.2) ++ ((wSt G a0.2.2.2.1 v0.2.2.1.1 v0.2.2.1.2.1 v0.2.2.1.2.2.1 v0.2.2.1.2.2.2) ++ (wWays G a0.2.2.2.2.2.2 v0.2.2.2.2.2.2.1 v0.2.2.2.2.2.2.2.1 v0.2.2.2.2.2.2.2.2))))) rfl (pv (fun u7 hw => ?_))
    refine v_to (wCD G a0 v0.1 u5 v0.2.2.1 v0.2.2.2.1 v0.2.2.2.2.1 u7 v0.2.2.2.2.2.2) 33 [(0, .ref a0.1)] _ [] rfl rfl rfl rfl ?_
    refine v_iconst (v := 0) (pc2 := 34) S dX8_run_33 (by decide) rfl ?_
    refine v_istore_n (lv2 := [(0, .ref a0.1), (1, .int (0 : Int32))]) (pc2 := 35) S dX8_run_34 rfl (by decide) [1, 0] rfl rfl ?_
    refine v_iconst (v := 0) (pc2 := 36) S dX8_run_35 (by decide) rfl ?_
    refine v_istore_n (lv2 := [(0, .ref a0.1), (1, .int (0 : Int32)), (2, .int (0 : Int32))]) (pc2 := 37) S dX8_run_36 rfl (by decide) [1, 2, 0] rfl rfl ?_
    refine v_iconst (v := 0) (pc2 := 38) S dX8_run_37 (by decide) rfl ?_
    refine v_istore_n (lv2 := [(0, .ref a0.1), (1, .int (0 : Int32)), (2, .int (0 : Int32)), (3, .int (0 : Int32))]) (pc2 := 39) S dX8_run_38 rfl (by decide) [1, 2, 3, 0] rfl rfl ?_
    obtain ⟨kk, hw⟩ := hw
    exact L39 kk (0 : Int32) (0 : Int32) (0 : Int32) (v0.1, u5, v0.2.2.1, v0.2.2.2.1, v0.2.2.2.2.1, u7, v0.2.2.2.2.2.2) hw
  · have hw := hw.2 c3
    refine v_bipush (v := -2) (pc2 := 14) S dX8_run_12 (by decide) rfl ?_
    exact v_iret S ⟨(-2 : Int32), v0, rfl, rfl, hw⟩ dX8_run_14
set_option maxHeartbeats 4000000 in
set_option maxRecDepth 100000 in
theorem c_X8_why (l : Launch) (G : GG) (a0 : CDA) (v0 : CDV) (i0 : Int32) (Q : Int32 → Prop) (hw : wp_X8_why v0 i0 Q) : Con l G yX8_why cX8_why 2 (some .int) { frames := 1, cells := 0, slots := 0, locals := 20 } [.ref a0.1, .int i0] (wCD G a0 v0.1 v0.2.1 v0.2.2.1 v0.2.2.2.1 v0.2.2.2.2.1 v0.2.2.2.2.2.1 v0.2.2.2.2.2.2) (PI (fun _ : Unit => wCD G a0 v0.1 v0.2.1 v0.2.2.1 v0.2.2.2.1 v0.2.2.2.2.1 v0.2.2.2.2.2.1 v0.2.2.2.2.2.2) (fun r _ => Q r)) 0 0 := by
  refine con_of RX8 rfl (by decide) [(0, .ref a0.1), (1, .int i0)] rfl (Nat.le_of_ble_eq_true rfl) ?_
  intro p e s m args below meth c S hname
  refine v_iload_n (pc2 := 1) S 1 dX8_why_0 rfl rfl rfl ?_
  by_cases c1 : i0 = (0 : Int32)
  · have hw := hw.1 c1
    refine v_tableIn (off := 27) (tgt := 28) S dX8_why_1 (by rw [c1]; decide) (by rw [c1]; decide) (by rw [c1]; rfl) (by decide) ?_
    refine v_aload_n (pc2 := 29) S 0 dX8_why_28 rfl rfl rfl ?_
    refine v_get (v := .ref a0.2.2.2.2.2.1) (pc2 := 32) S gf_X8_40 0 rfl rfl dX8_why_29 rfl ?_
    refine v_callV (pc2 := 35) (As := []) (rest := []) S (c_X6_happened l G a0.2.2.2.2.2.1 v0.2.2.2.2.2.1 _ hw) mf_X6_happened u_669 u_670 u_671 0 6 rfl rfl rfl rfl ⟨rfl, rfl⟩ ⟨Nat.le_of_ble_eq_true rfl, Nat.le_of_ble_eq_true rfl⟩ ⟨Nat.le_of_ble_eq_true rfl, Nat.le_of_ble_eq_true rfl⟩ (Nat.le_of_ble_eq_true rfl) dX8_why_32 (frM (([(a0.1, .inr (8, [.ref a0.2.1.1, .ref a0.2.2.1.1, .ref a0.2.2.2.1.1, .int v0.2.2.2.1, .ref a0.2.2.2.2.1.1, .ref a0.2.2.2.2.2.1, .ref a0.2.2.2.2.2.2.1]))] : va_W) ++ (wPad G a0.2.2.2.2.1 v0.2.2.2.2.1.1 v0.2.2.2.2.1.2)) (wStop G a0.2.2.2.2.2.1 v0.2.2.2.2.2.1.1 v0.2.2.2.2.2.1.2.1 v0.2.2.2.2.2.1.2.2) ((wHist G a0.2.2.1 v0.2.1.1 v0.2.1.2.1 v0.2.1.2.2) ++ ((wSt G a0.2.1 v0.1.1 v0.1.2.1 v0.1.2.2.1 v0.1.2.2.2) ++ ((wSt G a0.2.2.2.1 v0.2.2.1.1 v0.2.2.1.2.1 v0.2.2.1.2.2.1 v0.2.2.1.2.2.2) ++ (wWays G a0.2.2.2.2.2.2 v0.2.2.2.2.2.2.1 v0.2.2.2.2.2.2.2.1 v0.2.2.2.2.2.2.2.2))))) rfl (pb (fun r2 u3 br2 hw => ?_))
    refine v_to (wCD G a0 v0.1 v0.2.1 v0.2.2.1 v0.2.2.2.1 v0.2.2.2.2.1 v0.2.2.2.2.2.1 v0.2.2.2.2.2.2) 35 [(0, .ref a0.1), (1, .int i0)] _ [.int r2] rfl rfl rfl rfl ?_
    refine v_if_eq (pc2 := 38) (tgt := 48) S dX8_why_35 (by decide) rfl (fun c4 => ?_) (fun c4 => ?_)
    · have hw := hw.1 c4
      refine v_bipush (v := -4) (pc2 := 50) S dX8_why_48 (by decide) rfl ?_
      exact v_iret S ⟨(-4 : Int32), (), rfl, rfl, hw⟩ dX8_why_50
    · have hw := hw.2 c4
      refine v_aload_n (pc2 := 39) S 0 dX8_why_38 rfl rfl rfl ?_
      refine v_get (v := .ref a0.2.2.2.2.2.1) (pc2 := 42) S gf_X8_40 0 rfl rfl dX8_why_39 rfl ?_
      refine v_getN (v := .int v0.2.2.2.2.2.1.1) (pc2 := 45) S gf_X8_155 3 rfl rfl dX8_why_42 rfl ?_
      refine v_goto (tgt := 50) S dX8_why_45 (by decide) ?_
      exact v_iret S ⟨v0.2.2.2.2.2.1.1, (), rfl, rfl, hw⟩ dX8_why_50
  · have hw := hw.2
    by_cases c5 : i0 = (1 : Int32)
    · have hw := hw.1 c5
      refine v_tableIn (off := 50) (tgt := 51) S dX8_why_1 (by rw [c5]; decide) (by rw [c5]; decide) (by rw [c5]; rfl) (by decide) ?_
      refine v_aload_n (pc2 := 52) S 0 dX8_why_51 rfl rfl rfl ?_
      refine v_get (v := .ref a0.2.2.2.2.2.1) (pc2 := 55) S gf_X8_40 0 rfl rfl dX8_why_52 rfl ?_
      refine v_callV (pc2 := 58) (As := []) (rest := []) S (c_X6_happened l G a0.2.2.2.2.2.1 v0.2.2.2.2.2.1 _ hw) mf_X6_happened u_669 u_670 u_671 0 6 rfl rfl rfl rfl ⟨rfl, rfl⟩ ⟨Nat.le_of_ble_eq_true rfl, Nat.le_of_ble_eq_true rfl⟩ ⟨Nat.le_of_ble_eq_true rfl, Nat.le_of_ble_eq_true rfl⟩ (Nat.le_of_ble_eq_true rfl) dX8_why_55 (frM (([(a0.1, .inr (8, [.ref a0.2.1.1, .ref a0.2.2.1.1, .ref a0.2.2.2.1.1, .int v0.2.2.2.1, .ref a0.2.2.2.2.1.1, .ref a0.2.2.2.2.2.1, .ref a0.2.2.2.2.2.2.1]))] : va_W) ++ (wPad G a0.2.2.2.2.1 v0.2.2.2.2.1.1 v0.2.2.2.2.1.2)) (wStop G a0.2.2.2.2.2.1 v0.2.2.2.2.2.1.1 v0.2.2.2.2.2.1.2.1 v0.2.2.2.2.2.1.2.2) ((wHist G a0.2.2.1 v0.2.1.1 v0.2.1.2.1 v0.2.1.2.2) ++ ((wSt G a0.2.1 v0.1.1 v0.1.2.1 v0.1.2.2.1 v0.1.2.2.2) ++ ((wSt G a0.2.2.2.1 v0.2.2.1.1 v0.2.2.1.2.1 v0.2.2.1.2.2.1 v0.2.2.1.2.2.2) ++ (wWays G a0.2.2.2.2.2.2 v0.2.2.2.2.2.2.1 v0.2.2.2.2.2.2.2.1 v0.2.2.2.2.2.2.2.2))))) rfl (pb (fun r6 u7 br6 hw => ?_))
      refine v_to (wCD G a0 v0.1 v0.2.1 v0.2.2.1 v0.2.2.2.1 v0.2.2.2.2.1 v0.2.2.2.2.2.1 v0.2.2.2.2.2.2) 58 [(0, .ref a0.1), (1, .int i0)] _ [.int r6] rfl rfl rfl rfl ?_
      refine v_if_eq (pc2 := 61) (tgt := 71) S dX8_why_58 (by decide) rfl (fun c8 => ?_) (fun c8 => ?_)
      · have hw := hw.1 c8
        refine v_bipush (v := -4) (pc2 := 73) S dX8_why_71 (by decide) rfl ?_
        exact v_iret S ⟨(-4 : Int32), (), rfl, rfl, hw⟩ dX8_why_73
      · have hw := hw.2 c8
        refine v_aload_n (pc2 := 62) S 0 dX8_why_61 rfl rfl rfl ?_
        refine v_get (v := .ref a0.2.2.2.2.2.1) (pc2 := 65) S gf_X8_40 0 rfl rfl dX8_why_62 rfl ?_
        refine v_getN (v := .int v0.2.2.2.2.2.1.2.1) (pc2 := 68) S gf_X8_158 3 rfl rfl dX8_why_65 rfl ?_
        refine v_goto (tgt := 73) S dX8_why_68 (by decide) ?_
        exact v_iret S ⟨v0.2.2.2.2.2.1.2.1, (), rfl, rfl, hw⟩ dX8_why_73
    · have hw := hw.2
      by_cases c9 : i0 = (2 : Int32)
      · have hw := hw.1 c9
        refine v_tableIn (off := 73) (tgt := 74) S dX8_why_1 (by rw [c9]; decide) (by rw [c9]; decide) (by rw [c9]; rfl) (by decide) ?_
        refine v_aload_n (pc2 := 75) S 0 dX8_why_74 rfl rfl rfl ?_
        refine v_get (v := .ref a0.2.2.2.2.2.1) (pc2 := 78) S gf_X8_40 0 rfl rfl dX8_why_75 rfl ?_
        refine v_callV (pc2 := 81) (As := []) (rest := []) S (c_X6_happened l G a0.2.2.2.2.2.1 v0.2.2.2.2.2.1 _ hw) mf_X6_happened u_669 u_670 u_671 0 6 rfl rfl rfl rfl ⟨rfl, rfl⟩ ⟨Nat.le_of_ble_eq_true rfl, Nat.le_of_ble_eq_true rfl⟩ ⟨Nat.le_of_ble_eq_true rfl, Nat.le_of_ble_eq_true rfl⟩ (Nat.le_of_ble_eq_true rfl) dX8_why_78 (frM (([(a0.1, .inr (8, [.ref a0.2.1.1, .ref a0.2.2.1.1, .ref a0.2.2.2.1.1, .int v0.2.2.2.1, .ref a0.2.2.2.2.1.1, .ref a0.2.2.2.2.2.1, .ref a0.2.2.2.2.2.2.1]))] : va_W) ++ (wPad G a0.2.2.2.2.1 v0.2.2.2.2.1.1 v0.2.2.2.2.1.2)) (wStop G a0.2.2.2.2.2.1 v0.2.2.2.2.2.1.1 v0.2.2.2.2.2.1.2.1 v0.2.2.2.2.2.1.2.2) ((wHist G a0.2.2.1 v0.2.1.1 v0.2.1.2.1 v0.2.1.2.2) ++ ((wSt G a0.2.1 v0.1.1 v0.1.2.1 v0.1.2.2.1 v0.1.2.2.2) ++ ((wSt G a0.2.2.2.1 v0.2.2.1.1 v0.2.2.1.2.1 v0.2.2.1.2.2.1 v0.2.2.1.2.2.2) ++ (wWays G a0.2.2.2.2.2.2 v0.2.2.2.2.2.2.1 v0.2.2.2.2.2.2.2.1 v0.2.2.2.2.2.2.2.2))))) rfl (pb (fun r10 u11 br10 hw => ?_))
        refine v_to (wCD G a0 v0.1 v0.2.1 v0.2.2.1 v0.2.2.2.1 v0.2.2.2.2.1 v0.2.2.2.2.2.1 v0.2.2.2.2.2.2) 81 [(0, .ref a0.1), (1, .int i0)] _ [.int r10] rfl rfl rfl rfl ?_
        refine v_if_eq (pc2 := 84) (tgt := 94) S dX8_why_81 (by decide) rfl (fun c12 => ?_) (fun c12 => ?_)
        · have hw := hw.1 c12
          refine v_bipush (v := -4) (pc2 := 96) S dX8_why_94 (by decide) rfl ?_
          exact v_iret S ⟨(-4 : Int32), (), rfl, rfl, hw⟩ dX8_why_96
        · have hw := hw.2 c12
          refine v_aload_n (pc2 := 85) S 0 dX8_why_84 rfl rfl rfl ?_
          refine v_get (v := .ref a0.2.2.2.2.2.1) (pc2 := 88) S gf_X8_40 0 rfl rfl dX8_why_85 rfl ?_
          refine v_getN (v := .int v0.2.2.2.2.2.1.2.2) (pc2 := 91) S gf_X8_161 3 rfl rfl dX8_why_88 rfl ?_
          refine v_goto (tgt := 96) S dX8_why_91 (by decide) ?_
          exact v_iret S ⟨v0.2.2.2.2.2.1.2.2, (), rfl, rfl, hw⟩ dX8_why_96
      · have hw := hw.2
        have hw := hw c1 c5 c9
        refine v_tableOut (tgt := 97) S dX8_why_1 (sw_out2 c1 c5 c9) (by decide) ?_
        refine v_iconst (v := -1) (pc2 := 98) S dX8_why_97 (by decide) rfl ?_
        exact v_iret S ⟨(-1 : Int32), (), rfl, rfl, hw⟩ dX8_why_98
set_option maxHeartbeats 4000000 in
set_option maxRecDepth 100000 in
theorem c_X8_mostOfAllSets (l : Launch) (G : GG) (a0 : CDA) (v0 : CDV) (Q : Int32 → Prop) (hw : wp_X8_mostOfAllSets v0 Q) : Con l G yX8_mostOfAllSets cX8_mostOfAllSets 3 (some .int) { frames := 3, cells := 0, slots := 0, locals := 66 } [.ref a0.1] (wCD G a0 v0.1 v0.2.1 v0.2.2.1 v0.2.2.2.1 v0.2.2.2.2.1 v0.2.2.2.2.2.1 v0.2.2.2.2.2.2) (PI (fun _ : Unit => wCD G a0 v0.1 v0.2.1 v0.2.2.1 v0.2.2.2.1 v0.2.2.2.2.1 v0.2.2.2.2.2.1 v0.2.2.2.2.2.2) (fun r _ => Q r)) 0 0 := by
  refine con_of RX8 rfl (by decide) [(0, .ref a0.1)] rfl (Nat.le_of_ble_eq_true rfl) ?_
  intro p e s m args below meth c S hname
  have L4 : ∀ (kk : Nat) (x1 : Int32) (x2 : Int32), wp_X8_mostOfAllSets_L4 v0 Q kk x1 x2 → V p l e { frames := 3, cells := 0, slots := 0, locals := 66 } s m args below meth c G (va_A (wCD G a0 v0.1 v0.2.1 v0.2.2.1 v0.2.2.2.1 v0.2.2.2.2.1 v0.2.2.2.2.2.1 v0.2.2.2.2.2.2) s.heap.size) 3 0 0 (MQ below (EQ G (wCD G a0 v0.1 v0.2.1 v0.2.2.1 v0.2.2.2.1 v0.2.2.2.2.1 v0.2.2.2.2.2.1 v0.2.2.2.2.2.2) s.heap.size (PI (fun _ : Unit => wCD G a0 v0.1 v0.2.1 v0.2.2.1 v0.2.2.2.1 v0.2.2.2.2.1 v0.2.2.2.2.2.1 v0.2.2.2.2.2.2) (fun r _ => Q r))) args s 0 0 (va_A (wCD G a0 v0.1 v0.2.1 v0.2.2.1 v0.2.2.2.1 v0.2.2.2.2.1 v0.2.2.2.2.2.1 v0.2.2.2.2.2.2) s.heap.size)) (wCD G a0 v0.1 v0.2.1 v0.2.2.1 v0.2.2.2.1 v0.2.2.2.2.1 v0.2.2.2.2.2.1 v0.2.2.2.2.2.2) 4 [(0, .ref a0.1), (1, .int x1), (2, .int x2)] [] := by
    intro kk
    induction kk with
    | zero => intro x1 x2 hw; exact hw.elim
    | succ n ih =>
      intro x1 x2 hw
      refine v_iload_n (pc2 := 5) S 2 dX8_mostOfAllSets_4 rfl rfl rfl ?_
      refine v_sipush (v := 1023) (pc2 := 8) S dX8_mostOfAllSets_5 (by decide) rfl ?_
      refine v_icmp_gt (pc2 := 11) (tgt := 40) S dX8_mostOfAllSets_8 (by decide) rfl (fun c1 => ?_) (fun c1 => ?_)
      · have hw := hw.1 c1
        refine v_iload_n (pc2 := 41) S 1 dX8_mostOfAllSets_40 rfl rfl rfl ?_
        exact v_iret S ⟨x1, (), rfl, rfl, hw⟩ dX8_mostOfAllSets_41
      · have hw := hw.2 c1
        refine v_aload_n (pc2 := 12) S 0 dX8_mostOfAllSets_11 rfl rfl rfl ?_
        refine v_get (v := .ref a0.2.1.1) (pc2 := 15) S gf_X8_12 0 rfl rfl dX8_mostOfAllSets_12 rfl ?_
        refine v_getN (v := .ref a0.2.1.2.1.1) (pc2 := 18) S gf_X8_66 62 rfl rfl dX8_mostOfAllSets_15 rfl ?_
        refine v_iload_n (pc2 := 19) S 2 dX8_mostOfAllSets_18 rfl rfl rfl ?_
        refine v_callV (pc2 := 22) (As := [.int x2]) (rest := []) S (c_X3_canBeOpen l G a0.2.1.2.1 v0.1.1 x2 _ hw) mf_X3_canBeOpen u_302 u_303 u_304 0 3 rfl rfl rfl rfl ⟨rfl, rfl⟩ ⟨Nat.le_of_ble_eq_true rfl, Nat.le_of_ble_eq_true rfl⟩ ⟨Nat.le_of_ble_eq_true rfl, Nat.le_of_ble_eq_true rfl⟩ (Nat.le_of_ble_eq_true rfl) dX8_mostOfAllSets_19 (frM (([(a0.1, .inr (8, [.ref a0.2.1.1, .ref a0.2.2.1.1, .ref a0.2.2.2.1.1, .int v0.2.2.2.1, .ref a0.2.2.2.2.1.1, .ref a0.2.2.2.2.2.1, .ref a0.2.2.2.2.2.2.1]))] : va_W) ++ ((wPad G a0.2.2.2.2.1 v0.2.2.2.2.1.1 v0.2.2.2.2.1.2) ++ ((wStop G a0.2.2.2.2.2.1 v0.2.2.2.2.2.1.1 v0.2.2.2.2.2.1.2.1 v0.2.2.2.2.2.1.2.2) ++ ((wHist G a0.2.2.1 v0.2.1.1 v0.2.1.2.1 v0.2.1.2.2) ++ (([(a0.2.1.1, .inr (5, [.ref a0.2.1.2.1.1, .ref a0.2.1.2.2.1.1, .ref a0.2.1.2.2.2.1, .int v0.1.2.2.2]))] : va_W)))))) (wLoom G a0.2.1.2.1 v0.1.1.1 v0.1.1.2.1 v0.1.1.2.2.1 v0.1.1.2.2.2.1 v0.1.1.2.2.2.2.1 v0.1.1.2.2.2.2.2) ((wGu G a0.2.1.2.2.1 v0.1.2.1.1 v0.1.2.1.2.1 v0.1.2.1.2.2) ++ ((wAc G a0.2.1.2.2.2 v0.1.2.2.1.1 v0.1.2.2.1.2.1 v0.1.2.2.1.2.2.1 v0.1.2.2.1.2.2.2.1 v0.1.2.2.1.2.2.2.2.1 v0.1.2.2.1.2.2.2.2.2.1 v0.1.2.2.1.2.2.2.2.2.2) ++ ((wSt G a0.2.2.2.1 v0.2.2.1.1 v0.2.2.1.2.1 v0.2.2.1.2.2.1 v0.2.2.1.2.2.2) ++ (wWays G a0.2.2.2.2.2.2 v0.2.2.2.2.2.2.1 v0.2.2.2.2.2.2.2.1 v0.2.2.2.2.2.2.2.2))))) rfl (pb (fun r2 u3 br2 hw => ?_))
        refine v_to (wCD G a0 v0.1 v0.2.1 v0.2.2.1 v0.2.2.2.1 v0.2.2.2.2.1 v0.2.2.2.2.2.1 v0.2.2.2.2.2.2) 22 [(0, .ref a0.1), (1, .int x1), (2, .int x2)] _ [.int r2] rfl rfl rfl rfl ?_
        refine v_if_eq (pc2 := 25) (tgt := 34) S dX8_mostOfAllSets_22 (by decide) rfl (fun c4 => ?_) (fun c4 => ?_)
        · have hw := hw.1 c4
          obtain ⟨z5, ez5⟩ : ∃ y : Int32, y = x2 + (1 : Int32) := ⟨_, rfl⟩
          have hw := hw z5 ez5
          refine v_iinc (v := z5) (lv2 := [(0, .ref a0.1), (1, .int x1), (2, .int z5)]) (pc2 := 37) S 2 dX8_mostOfAllSets_34 rfl (by rw [ez5]; rfl) (by decide) [1, 2, 0] rfl rfl ?_
          refine v_goto (tgt := 4) S dX8_mostOfAllSets_37 (by decide) ?_
          exact ih x1 z5 hw
        · have hw := hw.2 c4
          refine v_iload_n (pc2 := 26) S 1 dX8_mostOfAllSets_25 rfl rfl rfl ?_
          refine v_iload_n (pc2 := 27) S 2 dX8_mostOfAllSets_26 rfl rfl rfl ?_
          refine v_callS (pc2 := 30) (As := [.int x2]) (rest := [.int x1]) S (c_J6_bitCount_0f7a4 l G x2 _ hw) mf_J6_bitCount_0f7a4 u_402 u_312 rfl rfl ⟨rfl, rfl⟩ ⟨Nat.le_of_ble_eq_true rfl, Nat.le_of_ble_eq_true rfl⟩ ⟨Nat.le_of_ble_eq_true rfl, Nat.le_of_ble_eq_true rfl⟩ (Nat.le_of_ble_eq_true rfl) dX8_mostOfAllSets_27 (frM [] [] _) rfl (pi (fun r6 u7 hw => ?_))
          refine v_to (wCD G a0 v0.1 v0.2.1 v0.2.2.1 v0.2.2.2.1 v0.2.2.2.2.1 v0.2.2.2.2.2.1 v0.2.2.2.2.2.2) 30 [(0, .ref a0.1), (1, .int x1), (2, .int x2)] _ [.int r6, .int x1] rfl rfl rfl rfl ?_
          refine v_max (pc2 := 33) S u_655 u_64 u_23 u_65 (Nat.le_of_ble_eq_true rfl) (Nat.le_of_ble_eq_true rfl) (Nat.zero_le _) (Nat.zero_le _) dX8_mostOfAllSets_30 rfl ?_
          refine v_nm (fun z8 ez8 => ?_)
          have hw := hw z8 ez8
          refine v_istore_n (lv2 := [(0, .ref a0.1), (1, .int z8), (2, .int x2)]) (pc2 := 34) S dX8_mostOfAllSets_33 rfl (by decide) [1, 0, 2] rfl rfl ?_
          obtain ⟨z9, ez9⟩ : ∃ y : Int32, y = x2 + (1 : Int32) := ⟨_, rfl⟩
          have hw := hw z9 ez9
          refine v_iinc (v := z9) (lv2 := [(0, .ref a0.1), (1, .int z8), (2, .int z9)]) (pc2 := 37) S 2 dX8_mostOfAllSets_34 rfl (by rw [ez9]; rfl) (by decide) [1, 2, 0] rfl rfl ?_
          refine v_goto (tgt := 4) S dX8_mostOfAllSets_37 (by decide) ?_
          exact ih z8 z9 hw
  refine v_iconst (v := 0) (pc2 := 1) S dX8_mostOfAllSets_0 (by decide) rfl ?_
  refine v_istore_n (lv2 := [(0, .ref a0.1), (1, .int (0 : Int32))]) (pc2 := 2) S dX8_mostOfAllSets_1 rfl (by decide) [1, 0] rfl rfl ?_
  refine v_iconst (v := 0) (pc2 := 3) S dX8_mostOfAllSets_2 (by decide) rfl ?_
  refine v_istore_n (lv2 := [(0, .ref a0.1), (1, .int (0 : Int32)), (2, .int (0 : Int32))]) (pc2 := 4) S dX8_mostOfAllSets_3 rfl (by decide) [1, 2, 0] rfl rfl ?_
  obtain ⟨kk, hw⟩ := hw
  exact L4 kk (0 : Int32) (0 : Int32) hw
set_option maxHeartbeats 4000000 in
set_option maxRecDepth 100000 in
theorem c_X8_mostDoorByDoor (l : Launch) (G : GG) (a0 : LoomA) : ∀ (kk : Nat) (v0 : LoomV) (i0 : Int32) (i1 : Int32) (Q : Int32 → Prop), wp_X8_mostDoorByDoor kk v0 i0 i1 Q → Con l G yX8_mostDoorByDoor cX8_mostDoorByDoor 5 (some .int) { frames := 3 + kk, cells := 0, slots := 0, locals := 66 + 24 * kk } [.ref a0.1, .int i0, .int i1] (wLoom G a0 v0.1 v0.2.1 v0.2.2.1 v0.2.2.2.1 v0.2.2.2.2.1 v0.2.2.2.2.2) (PI (fun _ : Unit => wLoom G a0 v0.1 v0.2.1 v0.2.2.1 v0.2.2.2.1 v0.2.2.2.2.1 v0.2.2.2.2.2) (fun r _ => Q r)) 0 0 := by
  intro kk
  induction kk with
  | zero => intro v0 i0 i1 Q hw; exact hw.elim
  | succ n ih =>
    intro v0 i0 i1 Q hw
    refine con_of RX8 rfl (by decide) [(0, .ref a0.1), (1, .int i0), (2, .int i1)] rfl (Nat.le_of_ble_eq_true rfl) ?_
    intro p e s m args below meth c S hname
    refine v_iload_n (pc2 := 1) S 1 dX8_mostDoorByDoor_0 rfl rfl rfl ?_
    refine v_bipush (v := 10) (pc2 := 3) S dX8_mostDoorByDoor_1 (by decide) rfl ?_
    refine v_icmp_lt (pc2 := 6) (tgt := 11) S dX8_mostDoorByDoor_3 (by decide) rfl (fun c1 => ?_) (fun c1 => ?_)
    · have hw := hw.1 c1
      refine v_aload_n (pc2 := 12) S 0 dX8_mostDoorByDoor_11 rfl rfl rfl ?_
      refine v_iload_n (pc2 := 13) S 1 dX8_mostDoorByDoor_12 rfl rfl rfl ?_
      refine v_iconst (v := 1) (pc2 := 14) S dX8_mostDoorByDoor_13 (by decide) rfl ?_
      refine v_iadd (pc2 := 15) S dX8_mostDoorByDoor_14 rfl ?_
      refine v_iload_n (pc2 := 16) S 2 dX8_mostDoorByDoor_15 rfl rfl rfl ?_
      refine v_callS (pc2 := 19) (As := [.ref a0.1, .int (i0 + (1 : Int32)), .int i1]) (rest := []) S (ih v0 (i0 + (1 : Int32)) i1 _ hw) mf_X8_mostDoorByDoor u_656 u_657 rfl rfl ⟨rfl, rfl⟩ ⟨by dsimp only; omega, by dsimp only; omega⟩ ⟨Nat.le_of_ble_eq_true rfl, Nat.le_of_ble_eq_true rfl⟩ (Nat.le_of_ble_eq_true rfl) dX8_mostDoorByDoor_16 (frW _) rfl (pi (fun r2 u3 hw => ?_))
      refine v_to (wLoom G a0 v0.1 v0.2.1 v0.2.2.1 v0.2.2.2.1 v0.2.2.2.2.1 v0.2.2.2.2.2) 19 [(0, .ref a0.1), (1, .int i0), (2, .int i1)] _ [.int r2] rfl rfl rfl rfl ?_
      refine v_istore_n (lv2 := [(0, .ref a0.1), (1, .int i0), (2, .int i1), (3, .int r2)]) (pc2 := 20) S dX8_mostDoorByDoor_19 rfl (by decide) [1, 2, 3, 0] rfl rfl ?_
      refine v_iload_n (pc2 := 21) S 2 dX8_mostDoorByDoor_20 rfl rfl rfl ?_
      refine v_iconst (v := 1) (pc2 := 22) S dX8_mostDoorByDoor_21 (by decide) rfl ?_
      refine v_iload_n (pc2 := 23) S 1 dX8_mostDoorByDoor_22 rfl rfl rfl ?_
      refine v_ishl (pc2 := 24) S dX8_mostDoorByDoor_23 rfl ?_
      refine v_ior (pc2 := 25) S dX8_mostDoorByDoor_24 rfl ?_
      refine v_nm (fun z4 ez4 => ?_)
      have hw := hw z4 ez4
      refine v_istore (lv2 := [(0, .ref a0.1), (1, .int i0), (2, .int i1), (3, .int r2), (4, .int z4)]) (pc2 := 27) S dX8_mostDoorByDoor_25 (by decide) [1, 2, 3, 4, 0] rfl rfl ?_
      refine v_aload_n (pc2 := 28) S 0 dX8_mostDoorByDoor_27 rfl rfl rfl ?_
      refine v_iload (pc2 := 30) S 4 dX8_mostDoorByDoor_28 rfl rfl ?_
      refine v_callV (pc2 := 33) (As := [.int z4]) (rest := []) S (c_X3_canBeOpen l G a0 v0 z4 _ hw) mf_X3_canBeOpen u_302 u_303 u_304 0 3 rfl rfl rfl rfl ⟨rfl, rfl⟩ ⟨by dsimp only; omega, by dsimp only; omega⟩ ⟨Nat.le_of_ble_eq_true rfl, Nat.le_of_ble_eq_true rfl⟩ (Nat.le_of_ble_eq_true rfl) dX8_mostDoorByDoor_30 (frW _) rfl (pb (fun r5 u6 br5 hw => ?_))
      refine v_to (wLoom G a0 v0.1 v0.2.1 v0.2.2.1 v0.2.2.2.1 v0.2.2.2.2.1 v0.2.2.2.2.2) 33 [(0, .ref a0.1), (1, .int i0), (2, .int i1), (3, .int r2), (4, .int z4)] _ [.int r5] rfl rfl rfl rfl ?_
      refine v_if_ne (pc2 := 36) (tgt := 38) S dX8_mostDoorByDoor_33 (by decide) rfl (fun c7 => ?_) (fun c7 => ?_)
      · have hw := hw.1 c7
        refine v_iload_n (pc2 := 39) S 3 dX8_mostDoorByDoor_38 rfl rfl rfl ?_
        refine v_aload_n (pc2 := 40) S 0 dX8_mostDoorByDoor_39 rfl rfl rfl ?_
        refine v_iload_n (pc2 := 41) S 1 dX8_mostDoorByDoor_40 rfl rfl rfl ?_
        refine v_iconst (v := 1) (pc2 := 42) S dX8_mostDoorByDoor_41 (by decide) rfl ?_
        refine v_iadd (pc2 := 43) S dX8_mostDoorByDoor_42 rfl ?_
        refine v_iload (pc2 := 45) S 4 dX8_mostDoorByDoor_43 rfl rfl ?_
        refine v_callS (pc2 := 48) (As := [.ref a0.1, .int (i0 + (1 : Int32)), .int z4]) (rest := [.int r2]) S (ih v0 (i0 + (1 : Int32)) z4 _ hw) mf_X8_mostDoorByDoor u_656 u_657 rfl rfl ⟨rfl, rfl⟩ ⟨by dsimp only; omega, by dsimp only; omega⟩ ⟨Nat.le_of_ble_eq_true rfl, Nat.le_of_ble_eq_true rfl⟩ (Nat.le_of_ble_eq_true rfl) dX8_mostDoorByDoor_45 (frW _) rfl (pi (fun r8 u9 hw => ?_))
        refine v_to (wLoom G a0 v0.1 v0.2.1 v0.2.2.1 v0.2.2.2.1 v0.2.2.2.2.1 v0.2.2.2.2.2) 48 [(0, .ref a0.1), (1, .int i0), (2, .int i1), (3, .int r2), (4, .int z4)] _ [.int r8, .int r2] rfl rfl rfl rfl ?_
        refine v_max (pc2 := 51) S u_655 u_64 u_23 u_65 (by dsimp only [List.map, List.sum, List.foldr, Value.category]; omega) (by dsimp only [List.map, List.sum, List.foldr, Value.category]; omega) (Nat.zero_le _) (Nat.zero_le _) dX8_mostDoorByDoor_48 rfl ?_
        exact v_iret S ⟨(if r2 < r8 then r8 else r2), (), rfl, rfl, hw⟩ dX8_mostDoorByDoor_51
      · have hw := hw.2 c7
        refine v_iload_n (pc2 := 37) S 3 dX8_mostDoorByDoor_36 rfl rfl rfl ?_
        exact v_iret S ⟨r2, (), rfl, rfl, hw⟩ dX8_mostDoorByDoor_37
    · have hw := hw.2 c1
      refine v_iload_n (pc2 := 7) S 2 dX8_mostDoorByDoor_6 rfl rfl rfl ?_
      refine v_callS (pc2 := 10) (As := [.int i1]) (rest := []) S (c_J6_bitCount_0f7a4 l G i1 _ hw) mf_J6_bitCount_0f7a4 u_402 u_312 rfl rfl ⟨rfl, rfl⟩ ⟨by dsimp only; omega, by dsimp only; omega⟩ ⟨Nat.le_of_ble_eq_true rfl, Nat.le_of_ble_eq_true rfl⟩ (Nat.le_of_ble_eq_true rfl) dX8_mostDoorByDoor_7 (frM [] [] _) rfl (pi (fun r10 u11 hw => ?_))
      refine v_to (wLoom G a0 v0.1 v0.2.1 v0.2.2.1 v0.2.2.2.1 v0.2.2.2.2.1 v0.2.2.2.2.2) 10 [(0, .ref a0.1), (1, .int i0), (2, .int i1)] _ [.int r10] rfl rfl rfl rfl ?_
      exact v_iret S ⟨r10, (), rfl, rfl, hw⟩ dX8_mostDoorByDoor_10
set_option maxHeartbeats 4000000 in
set_option maxRecDepth 100000 in
theorem c_X8_undo (l : Launch) (G : GG) (a0 : CDA) (v0 : CDV) (Q : Int32 → CDV → Prop) (hw : wp_X8_undo v0 Q) : Con l G yX8_undo cX8_undo 1 (some .int) { frames := 4, cells := 0, slots := 0, locals := 123 } [.ref a0.1] (wCD G a0 v0.1 v0.2.1 v0.2.2.1 v0.2.2.2.1 v0.2.2.2.2.1 v0.2.2.2.2.2.1 v0.2.2.2.2.2.2) (PI (fun u : CDV => wCD G a0 u.1 u.2.1 u.2.2.1 u.2.2.2.1 u.2.2.2.2.1 u.2.2.2.2.2.1 u.2.2.2.2.2.2) Q) 0 0 := by
  refine con_of RX8 rfl (by decide) [(0, .ref a0.1)] rfl (Nat.le_of_ble_eq_true rfl) ?_
  intro p e s m args below meth c S hname
  refine v_aload_n (pc2 := 1) S 0 dX8_undo_0 rfl rfl rfl ?_
  refine v_get (v := .ref a0.2.2.1.1) (pc2 := 4) S gf_X8_19 0 rfl rfl dX8_undo_1 rfl ?_
  refine v_getN (v := .int v0.2.1.2.2) (pc2 := 7) S gf_X8_265 4 rfl rfl dX8_undo_4 rfl ?_
  refine v_if_ne (pc2 := 10) (tgt := 13) S dX8_undo_7 (by decide) rfl (fun c1 => ?_) (fun c1 => ?_)
  · have hw := hw.1 c1
    refine v_aload_n (pc2 := 14) S 0 dX8_undo_13 rfl rfl rfl ?_
    refine v_get (v := .ref a0.2.2.1.1) (pc2 := 17) S gf_X8_19 0 rfl rfl dX8_undo_14 rfl ?_
    refine v_aload_n (pc2 := 18) S 0 dX8_undo_17 rfl rfl rfl ?_
    refine v_get (v := .ref a0.2.1.1) (pc2 := 21) S gf_X8_12 0 rfl rfl dX8_undo_18 rfl ?_
    refine v_callV (pc2 := 24) (As := [.ref a0.2.1.1]) (rest := []) S (c_X2_takeBack l G a0.2.2.1 a0.2.1 v0.2.1 v0.1 _ hw) mf_X2_takeBack u_428 u_429 u_430 0 2 rfl rfl rfl rfl ⟨rfl, rfl⟩ ⟨Nat.le_of_ble_eq_true rfl, Nat.le_of_ble_eq_true rfl⟩ ⟨Nat.le_of_ble_eq_true rfl, Nat.le_of_ble_eq_true rfl⟩ (Nat.le_of_ble_eq_true rfl) dX8_undo_21 (frM (([(a0.1, .inr (8, [.ref a0.2.1.1, .ref a0.2.2.1.1, .ref a0.2.2.2.1.1, .int v0.2.2.2.1, .ref a0.2.2.2.2.1.1, .ref a0.2.2.2.2.2.1, .ref a0.2.2.2.2.2.2.1]))] : va_W) ++ ((wPad G a0.2.2.2.2.1 v0.2.2.2.2.1.1 v0.2.2.2.2.1.2) ++ (wStop G a0.2.2.2.2.2.1 v0.2.2.2.2.2.1.1 v0.2.2.2.2.2.1.2.1 v0.2.2.2.2.2.1.2.2))) (wHist G a0.2.2.1 v0.2.1.1 v0.2.1.2.1 v0.2.1.2.2 ++ wSt G a0.2.1 v0.1.1 v0.1.2.1 v0.1.2.2.1 v0.1.2.2.2) ((wSt G a0.2.2.2.1 v0.2.2.1.1 v0.2.2.1.2.1 v0.2.2.1.2.2.1 v0.2.2.1.2.2.2) ++ (wWays G a0.2.2.2.2.2.2 v0.2.2.2.2.2.2.1 v0.2.2.2.2.2.2.2.1 v0.2.2.2.2.2.2.2.2))) rfl (pv (fun u3 hw => ?_))
    refine v_to (wCD G a0 u3.2 u3.1 v0.2.2.1 v0.2.2.2.1 v0.2.2.2.2.1 v0.2.2.2.2.2.1 v0.2.2.2.2.2.2) 24 [(0, .ref a0.1)] _ [] rfl rfl rfl rfl ?_
    refine v_aload_n (pc2 := 25) S 0 dX8_undo_24 rfl rfl rfl ?_
    refine v_get (v := .ref a0.2.2.1.1) (pc2 := 28) S gf_X8_19 0 rfl rfl dX8_undo_25 rfl ?_
    refine v_getN (v := .int u3.1.2.2) (pc2 := 31) S gf_X8_265 4 rfl rfl dX8_undo_28 rfl ?_
    exact v_iret S ⟨u3.1.2.2, (u3.2, u3.1, v0.2.2.1, v0.2.2.2.1, v0.2.2.2.2.1, v0.2.2.2.2.2.1, v0.2.2.2.2.2.2), rfl, rfl, hw⟩ dX8_undo_31
  · have hw := hw.2 c1
    refine v_bipush (v := -2) (pc2 := 12) S dX8_undo_10 (by decide) rfl ?_
    exact v_iret S ⟨(-2 : Int32), v0, rfl, rfl, hw⟩ dX8_undo_12
set_option maxHeartbeats 4000000 in
set_option maxRecDepth 100000 in
theorem c_X8_save (l : Launch) (G : GG) (a0 : CDA) (v0 : CDV) (Q : Int32 → CDV → Prop) (hw : wp_X8_save v0 Q) : Con l G yX8_save cX8_save 1 (some .int) { frames := 3, cells := 0, slots := 0, locals := 102 } [.ref a0.1] (wCD G a0 v0.1 v0.2.1 v0.2.2.1 v0.2.2.2.1 v0.2.2.2.2.1 v0.2.2.2.2.2.1 v0.2.2.2.2.2.2) (PI (fun u : CDV => wCD G a0 u.1 u.2.1 u.2.2.1 u.2.2.2.1 u.2.2.2.2.1 u.2.2.2.2.2.1 u.2.2.2.2.2.2) Q) 0 0 := by
  refine con_of RX8 rfl (by decide) [(0, .ref a0.1)] rfl (Nat.le_of_ble_eq_true rfl) ?_
  intro p e s m args below meth c S hname
  refine v_aload_n (pc2 := 1) S 0 dX8_save_0 rfl rfl rfl ?_
  refine v_get (v := .ref a0.2.2.2.1.1) (pc2 := 4) S gf_X8_23 0 rfl rfl dX8_save_1 rfl ?_
  refine v_aload_n (pc2 := 5) S 0 dX8_save_4 rfl rfl rfl ?_
  refine v_get (v := .ref a0.2.1.1) (pc2 := 8) S gf_X8_12 0 rfl rfl dX8_save_5 rfl ?_
  refine v_callV (pc2 := 11) (As := [.ref a0.2.1.1]) (rest := []) S (c_X5_copy l G a0.2.2.2.1 a0.2.1 v0.2.2.1 v0.1 _ hw) mf_X5_copy u_464 u_440 u_441 0 5 rfl rfl rfl rfl ⟨rfl, rfl⟩ ⟨Nat.le_of_ble_eq_true rfl, Nat.le_of_ble_eq_true rfl⟩ ⟨Nat.le_of_ble_eq_true rfl, Nat.le_of_ble_eq_true rfl⟩ (Nat.le_of_ble_eq_true rfl) dX8_save_8 (frP (Rs := ([(a0.1, .inr (8, [.ref a0.2.1.1, .ref a0.2.2.1.1, .ref a0.2.2.2.1.1, .int v0.2.2.2.1, .ref a0.2.2.2.2.1.1, .ref a0.2.2.2.2.2.1, .ref a0.2.2.2.2.2.2.1]))] : va_W) ++ ((wPad G a0.2.2.2.2.1 v0.2.2.2.2.1.1 v0.2.2.2.2.1.2) ++ ((wStop G a0.2.2.2.2.2.1 v0.2.2.2.2.2.1.1 v0.2.2.2.2.2.1.2.1 v0.2.2.2.2.2.1.2.2) ++ ((wHist G a0.2.2.1 v0.2.1.1 v0.2.1.2.1 v0.2.1.2.2) ++ (wWays G a0.2.2.2.2.2.2 v0.2.2.2.2.2.2.1 v0.2.2.2.2.2.2.2.1 v0.2.2.2.2.2.2.2.2))))) (gperm [[(a0.1, .inr (8, [.ref a0.2.1.1, .ref a0.2.2.1.1, .ref a0.2.2.2.1.1, .int v0.2.2.2.1, .ref a0.2.2.2.2.1.1, .ref a0.2.2.2.2.2.1, .ref a0.2.2.2.2.2.2.1]))], wPad G a0.2.2.2.2.1 v0.2.2.2.2.1.1 v0.2.2.2.2.1.2, wStop G a0.2.2.2.2.2.1 v0.2.2.2.2.2.1.1 v0.2.2.2.2.2.1.2.1 v0.2.2.2.2.2.1.2.2, wHist G a0.2.2.1 v0.2.1.1 v0.2.1.2.1 v0.2.1.2.2, wSt G a0.2.1 v0.1.1 v0.1.2.1 v0.1.2.2.1 v0.1.2.2.2, wSt G a0.2.2.2.1 v0.2.2.1.1 v0.2.2.1.2.1 v0.2.2.1.2.2.1 v0.2.2.1.2.2.2, wWays G a0.2.2.2.2.2.2 v0.2.2.2.2.2.2.1 v0.2.2.2.2.2.2.2.1 v0.2.2.2.2.2.2.2.2] [5, 4, 0, 1, 2, 3, 6] rfl)) rfl (pv (fun u2 hw => ?_))
  refine v_perm _ (gperm [wSt G a0.2.2.2.1 u2.1 u2.2.1 u2.2.2.1 u2.2.2.2, wSt G a0.2.1 v0.1.1 v0.1.2.1 v0.1.2.2.1 v0.1.2.2.2, [(a0.1, .inr (8, [.ref a0.2.1.1, .ref a0.2.2.1.1, .ref a0.2.2.2.1.1, .int v0.2.2.2.1, .ref a0.2.2.2.2.1.1, .ref a0.2.2.2.2.2.1, .ref a0.2.2.2.2.2.2.1]))], wPad G a0.2.2.2.2.1 v0.2.2.2.2.1.1 v0.2.2.2.2.1.2, wStop G a0.2.2.2.2.2.1 v0.2.2.2.2.2.1.1 v0.2.2.2.2.2.1.2.1 v0.2.2.2.2.2.1.2.2, wHist G a0.2.2.1 v0.2.1.1 v0.2.1.2.1 v0.2.1.2.2, wWays G a0.2.2.2.2.2.2 v0.2.2.2.2.2.2.1 v0.2.2.2.2.2.2.2.1 v0.2.2.2.2.2.2.2.2] [2, 3, 4, 5, 1, 0, 6] rfl) ?_
  refine v_to (wCD G a0 v0.1 v0.2.1 u2 v0.2.2.2.1 v0.2.2.2.2.1 v0.2.2.2.2.2.1 v0.2.2.2.2.2.2) 11 [(0, .ref a0.1)] _ [] rfl rfl rfl rfl ?_
  refine v_aload_n (pc2 := 12) S 0 dX8_save_11 rfl rfl rfl ?_
  refine v_iconst (v := 1) (pc2 := 13) S dX8_save_12 (by decide) rfl ?_
  refine v_put (ws2 := wCD G a0 v0.1 v0.2.1 u2 (1 : Int32) v0.2.2.2.2.1 v0.2.2.2.2.2.1 v0.2.2.2.2.2.2) (pc2 := 16) S gf_X8_26 pf_X8_3 0 rfl (by decide) (by decide) (Nat.le_of_ble_eq_true rfl) rfl dX8_save_13 rfl ?_
  refine v_aload_n (pc2 := 17) S 0 dX8_save_16 rfl rfl rfl ?_
  refine v_get (v := .ref a0.2.1.1) (pc2 := 20) S gf_X8_12 0 rfl rfl dX8_save_17 rfl ?_
  refine v_getN (v := .int v0.1.2.2.2) (pc2 := 23) S gf_X8_167 62 rfl rfl dX8_save_20 rfl ?_
  exact v_iret S ⟨v0.1.2.2.2, (v0.1, v0.2.1, u2, (1 : Int32), v0.2.2.2.2.1, v0.2.2.2.2.2.1, v0.2.2.2.2.2.2), rfl, rfl, hw⟩ dX8_save_23
set_option maxHeartbeats 4000000 in
set_option maxRecDepth 100000 in
theorem c_X8_restore (l : Launch) (G : GG) (a0 : CDA) (v0 : CDV) (Q : Int32 → CDV → Prop) (hw : wp_X8_restore v0 Q) : Con l G yX8_restore cX8_restore 1 (some .int) { frames := 4, cells := 0, slots := 0, locals := 123 } [.ref a0.1] (wCD G a0 v0.1 v0.2.1 v0.2.2.1 v0.2.2.2.1 v0.2.2.2.2.1 v0.2.2.2.2.2.1 v0.2.2.2.2.2.2) (PI (fun u : CDV => wCD G a0 u.1 u.2.1 u.2.2.1 u.2.2.2.1 u.2.2.2.2.1 u.2.2.2.2.2.1 u.2.2.2.2.2.2) Q) 0 0 := by
  refine con_of RX8 rfl (by decide) [(0, .ref a0.1)] rfl (Nat.le_of_ble_eq_true rfl) ?_
  intro p e s m args below meth c S hname
  refine v_aload_n (pc2 := 1) S 0 dX8_restore_0 rfl rfl rfl ?_
  refine v_get (v := .int v0.2.2.2.1) (pc2 := 4) S gf_X8_26 0 rfl rfl dX8_restore_1 rfl ?_
  refine v_if_ne (pc2 := 7) (tgt := 10) S dX8_restore_4 (by decide) rfl (fun c1 => ?_) (fun c1 => ?_)
  · have hw := hw.1 c1
    refine v_aload_n (pc2 := 11) S 0 dX8_restore_10 rfl rfl rfl ?_
    refine v_get (v := .ref a0.2.2.1.1) (pc2 := 14) S gf_X8_19 0 rfl rfl dX8_restore_11 rfl ?_
    refine v_aload_n (pc2 := 15) S 0 dX8_restore_14 rfl rfl rfl ?_
    refine v_get (v := .ref a0.2.1.1) (pc2 := 18) S gf_X8_12 0 rfl rfl dX8_restore_15 rfl ?_
    refine v_callV (pc2 := 21) (As := [.ref a0.2.1.1]) (rest := []) S (c_X2_record l G a0.2.2.1 a0.2.1 v0.2.1 v0.1 _ hw) mf_X2_record u_469 u_470 u_471 0 2 rfl rfl rfl rfl ⟨rfl, rfl⟩ ⟨Nat.le_of_ble_eq_true rfl, Nat.le_of_ble_eq_true rfl⟩ ⟨Nat.le_of_ble_eq_true rfl, Nat.le_of_ble_eq_true rfl⟩ (Nat.le_of_ble_eq_true rfl) dX8_restore_18 (frM (([(a0.1, .inr (8, [.ref a0.2.1.1, .ref a0.2.2.1.1, .ref a0.2.2.2.1.1, .int v0.2.2.2.1, .ref a0.2.2.2.2.1.1, .ref a0.2.2.2.2.2.1, .ref a0.2.2.2.2.2.2.1]))] : va_W) ++ ((wPad G a0.2.2.2.2.1 v0.2.2.2.2.1.1 v0.2.2.2.2.1.2) ++ (wStop G a0.2.2.2.2.2.1 v0.2.2.2.2.2.1.1 v0.2.2.2.2.2.1.2.1 v0.2.2.2.2.2.1.2.2))) (wHist G a0.2.2.1 v0.2.1.1 v0.2.1.2.1 v0.2.1.2.2 ++ wSt G a0.2.1 v0.1.1 v0.1.2.1 v0.1.2.2.1 v0.1.2.2.2) ((wSt G a0.2.2.2.1 v0.2.2.1.1 v0.2.2.1.2.1 v0.2.2.1.2.2.1 v0.2.2.1.2.2.2) ++ (wWays G a0.2.2.2.2.2.2 v0.2.2.2.2.2.2.1 v0.2.2.2.2.2.2.2.1 v0.2.2.2.2.2.2.2.2))) rfl (pv (fun u3 hw => ?_))
    refine v_to (wCD G a0 v0.1 u3 v0.2.2.1 v0.2.2.2.1 v0.2.2.2.2.1 v0.2.2.2.2.2.1 v0.2.2.2.2.2.2) 21 [(0, .ref a0.1)] _ [] rfl rfl rfl rfl ?_
    refine v_aload_n (pc2 := 22) S 0 dX8_restore_21 rfl rfl rfl ?_
    refine v_get (v := .ref a0.2.1.1) (pc2 := 25) S gf_X8_12 0 rfl rfl dX8_restore_22 rfl ?_
    refine v_aload_n (pc2 := 26) S 0 dX8_restore_25 rfl rfl rfl ?_
    refine v_get (v := .ref a0.2.2.2.1.1) (pc2 := 29) S gf_X8_23 0 rfl rfl dX8_restore_26 rfl ?_
    refine v_callV (pc2 := 32) (As := [.ref a0.2.2.2.1.1]) (rest := []) S (c_X5_copy l G a0.2.1 a0.2.2.2.1 v0.1 v0.2.2.1 _ hw) mf_X5_copy u_464 u_440 u_441 0 5 rfl rfl rfl rfl ⟨rfl, rfl⟩ ⟨Nat.le_of_ble_eq_true rfl, Nat.le_of_ble_eq_true rfl⟩ ⟨Nat.le_of_ble_eq_true rfl, Nat.le_of_ble_eq_true rfl⟩ (Nat.le_of_ble_eq_true rfl) dX8_restore_29 (frM (([(a0.1, .inr (8, [.ref a0.2.1.1, .ref a0.2.2.1.1, .ref a0.2.2.2.1.1, .int v0.2.2.2.1, .ref a0.2.2.2.2.1.1, .ref a0.2.2.2.2.2.1, .ref a0.2.2.2.2.2.2.1]))] : va_W) ++ ((wPad G a0.2.2.2.2.1 v0.2.2.2.2.1.1 v0.2.2.2.2.1.2) ++ ((wStop G a0.2.2.2.2.2.1 v0.2.2.2.2.2.1.1 v0.2.2.2.2.2.1.2.1 v0.2.2.2.2.2.1.2.2) ++ (wHist G a0.2.2.1 u3.1 u3.2.1 u3.2.2)))) (wSt G a0.2.1 v0.1.1 v0.1.2.1 v0.1.2.2.1 v0.1.2.2.2 ++ wSt G a0.2.2.2.1 v0.2.2.1.1 v0.2.2.1.2.1 v0.2.2.1.2.2.1 v0.2.2.1.2.2.2) (wWays G a0.2.2.2.2.2.2 v0.2.2.2.2.2.2.1 v0.2.2.2.2.2.2.2.1 v0.2.2.2.2.2.2.2.2)) rfl (pv (fun u5 hw => ?_))
    refine v_to (wCD G a0 u5 u3 v0.2.2.1 v0.2.2.2.1 v0.2.2.2.2.1 v0.2.2.2.2.2.1 v0.2.2.2.2.2.2) 32 [(0, .ref a0.1)] _ [] rfl rfl rfl rfl ?_
    refine v_aload_n (pc2 := 33) S 0 dX8_restore_32 rfl rfl rfl ?_
    refine v_get (v := .ref a0.2.1.1) (pc2 := 36) S gf_X8_12 0 rfl rfl dX8_restore_33 rfl ?_
    refine v_getN (v := .int u5.2.2.2) (pc2 := 39) S gf_X8_167 62 rfl rfl dX8_restore_36 rfl ?_
    exact v_iret S ⟨u5.2.2.2, (u5, u3, v0.2.2.1, v0.2.2.2.1, v0.2.2.2.2.1, v0.2.2.2.2.2.1, v0.2.2.2.2.2.2), rfl, rfl, hw⟩ dX8_restore_39
  · have hw := hw.2 c1
    refine v_bipush (v := -2) (pc2 := 9) S dX8_restore_7 (by decide) rfl ?_
    exact v_iret S ⟨(-2 : Int32), v0, rfl, rfl, hw⟩ dX8_restore_9
