set_option maxHeartbeats 4000000 in
set_option maxRecDepth 100000 in
theorem c_X5_init (l : Launch) (G : GG) (a0 : Nat) (Q : StV → Prop) (hw : wp_X5_init Q) : Con l G yX5_init cX5_init 1 none { frames := 3, cells := 13, slots := 91, locals := 66 } [.ref a0] [(a0, .inr (5, [.null, .null, .null, .int 0]))] (PV (fun u : StA × StV => wSt G u.1 u.2.1 u.2.2.1 u.2.2.2.1 u.2.2.2.2) (fun u => u.1.1 = a0 ∧ Q u.2)) 13 91 := by
  refine con_of RX5 rfl (by decide) [(0, .ref a0)] rfl (Nat.le_of_ble_eq_true rfl) ?_
  intro p e s m args below meth c S hname
  refine v_aload_n (pc2 := 1) S 0 dX5_init_0 rfl rfl rfl ?_
  refine v_objInit (pc2 := 4) S u_46 u_39 u_40 (Nat.le_of_ble_eq_true rfl) (Nat.le_of_ble_eq_true rfl) dX5_init_1 rfl ?_
  refine v_aload_n (pc2 := 5) S 0 dX5_init_4 rfl rfl rfl ?_
  refine v_new (a := 0) (ci := 3) (N := 6) (C := RX3) (T := TX3) (fs := [.null, .null, .null, .null, .null, .int 0]) (pc2 := 8) S tyX3 tyX3_ok rfl inX3 u_47 u_48 u_22 (fun j hj => by match j, hj with | 0, _ => rfl | 1, _ => rfl | 2, _ => rfl | 3, _ => rfl | 4, _ => rfl | 5, _ => rfl) (Nat.le_of_ble_eq_true rfl) (Nat.le_of_ble_eq_true rfl) dX5_init_5 rfl (fun q1 => ?_)
  refine v_to ([(a0, .inr (5, [.null, .null, .null, .int 0])), (q1, .inr (3, [.null, .null, .null, .null, .null, .int 0]))]) 8 [(0, .ref a0)] _ [.ref q1, .ref a0] rfl rfl rfl rfl ?_
  refine v_dup (pc2 := 9) S dX5_init_8 rfl rfl ?_
  refine v_callI (rt2 := none) (pc2 := 12) (As := []) (rest := [.ref q1, .ref a0]) S (c_X3_init l G q1 _ hw) mf_X3_init u_49 u_50 rfl rfl rfl ⟨rfl, rfl⟩ ⟨Nat.le_of_ble_eq_true rfl, Nat.le_of_ble_eq_true rfl⟩ ⟨Nat.le_of_ble_eq_true rfl, Nat.le_of_ble_eq_true rfl⟩ (Nat.le_of_ble_eq_true rfl) dX5_init_9 (frM ([(a0, .inr (5, [.null, .null, .null, .int 0]))]) [(q1, .inr (3, [.null, .null, .null, .null, .null, .int 0]))] []) rfl (pv (fun u2 hw => ?_))
  obtain ⟨⟨b3, b3r⟩, v4⟩ := u2
  obtain ⟨hq, hw⟩ := hw
  have hq : b3 = q1 := hq
  subst b3
  refine v_to (([(a0, .inr (5, [.null, .null, .null, .int 0]))] : va_W) ++ (wLoom G (q1, b3r) v4.1 v4.2.1 v4.2.2.1 v4.2.2.2.1 v4.2.2.2.2.1 v4.2.2.2.2.2)) 12 [(0, .ref a0)] _ [.ref q1, .ref a0] rfl rfl rfl rfl ?_
  refine v_putF (ws2 := ([(a0, .inr (5, [.ref q1, .null, .null, .int 0]))] : va_W) ++ (wLoom G (q1, b3r) v4.1 v4.2.1 v4.2.2.1 v4.2.2.2.1 v4.2.2.2.2.1 v4.2.2.2.2.2)) (pc2 := 15) S (show meth.name = "<init>" from hname) gf_X5_12 pf_X5_0 rfl 0 rfl rfl rfl (Nat.le_of_ble_eq_true rfl) rfl dX5_init_12 rfl ?_
  refine v_aload_n (pc2 := 16) S 0 dX5_init_15 rfl rfl rfl ?_
  refine v_new (a := 0) (ci := 1) (N := 3) (C := RX1) (T := TX1) (fs := [.null, .null, .null]) (pc2 := 19) S tyX1 tyX1_ok rfl inX1 u_87 u_88 u_24 (fun j hj => by match j, hj with | 0, _ => rfl | 1, _ => rfl | 2, _ => rfl) (Nat.le_of_ble_eq_true rfl) (Nat.le_of_ble_eq_true rfl) dX5_init_16 rfl (fun q5 => ?_)
  refine v_to (([(a0, .inr (5, [.ref q1, .null, .null, .int 0]))] : va_W) ++ ((wLoom G (q1, b3r) v4.1 v4.2.1 v4.2.2.1 v4.2.2.2.1 v4.2.2.2.2.1 v4.2.2.2.2.2) ++ (([(q5, .inr (1, [.null, .null, .null]))] : va_W)))) 19 [(0, .ref a0)] _ [.ref q5, .ref a0] rfl rfl rfl rfl ?_
  refine v_dup (pc2 := 20) S dX5_init_19 rfl rfl ?_
  refine v_callIN (rt2 := none) (pc2 := 23) (As := []) (rest := [.ref q5, .ref a0]) S (c_X1_init l G q5 _ hw) mf_X1_init u_89 u_90 rfl rfl rfl ⟨rfl, rfl⟩ ⟨Nat.le_of_ble_eq_true rfl, Nat.le_of_ble_eq_true rfl⟩ ⟨Nat.le_of_ble_eq_true rfl, Nat.le_of_ble_eq_true rfl⟩ (Nat.le_of_ble_eq_true rfl) dX5_init_20 (frM (([(a0, .inr (5, [.ref q1, .null, .null, .int 0]))] : va_W) ++ (wLoom G (q1, b3r) v4.1 v4.2.1 v4.2.2.1 v4.2.2.2.1 v4.2.2.2.2.1 v4.2.2.2.2.2)) [(q5, .inr (1, [.null, .null, .null]))] []) rfl (pv (fun u6 hw => ?_))
  obtain ⟨⟨b7, b7r⟩, v8⟩ := u6
  obtain ⟨hq, hw⟩ := hw
  have hq : b7 = q5 := hq
  subst b7
  refine v_to (([(a0, .inr (5, [.ref q1, .null, .null, .int 0]))] : va_W) ++ ((wLoom G (q1, b3r) v4.1 v4.2.1 v4.2.2.1 v4.2.2.2.1 v4.2.2.2.2.1 v4.2.2.2.2.2) ++ (wGu G (q5, b7r) v8.1 v8.2.1 v8.2.2))) 23 [(0, .ref a0)] _ [.ref q5, .ref a0] rfl rfl rfl rfl ?_
  refine v_putF (ws2 := ([(a0, .inr (5, [.ref q1, .ref q5, .null, .int 0]))] : va_W) ++ ((wLoom G (q1, b3r) v4.1 v4.2.1 v4.2.2.1 v4.2.2.2.1 v4.2.2.2.2.1 v4.2.2.2.2.2) ++ (wGu G (q5, b7r) v8.1 v8.2.1 v8.2.2))) (pc2 := 26) S (show meth.name = "<init>" from hname) gf_X5_21 pf_X5_1 rfl 0 rfl rfl rfl (Nat.le_of_ble_eq_true rfl) rfl dX5_init_23 rfl ?_
  refine v_aload_n (pc2 := 27) S 0 dX5_init_26 rfl rfl rfl ?_
  refine v_new (a := 0) (ci := 0) (N := 7) (C := RX0) (T := TX0) (fs := [.null, .null, .int 0, .int 0, .int 0, .int 0, .int 0]) (pc2 := 30) S tyX0 tyX0_ok rfl inX0 u_109 u_110 u_25 (fun j hj => by match j, hj with | 0, _ => rfl | 1, _ => rfl | 2, _ => rfl | 3, _ => rfl | 4, _ => rfl | 5, _ => rfl | 6, _ => rfl) (Nat.le_of_ble_eq_true rfl) (Nat.le_of_ble_eq_true rfl) dX5_init_27 rfl (fun q9 => ?_)
  refine v_to (([(a0, .inr (5, [.ref q1, .ref q5, .null, .int 0]))] : va_W) ++ ((wLoom G (q1, b3r) v4.1 v4.2.1 v4.2.2.1 v4.2.2.2.1 v4.2.2.2.2.1 v4.2.2.2.2.2) ++ ((wGu G (q5, b7r) v8.1 v8.2.1 v8.2.2) ++ (([(q9, .inr (0, [.null, .null, .int 0, .int 0, .int 0, .int 0, .int 0]))] : va_W))))) 30 [(0, .ref a0)] _ [.ref q9, .ref a0] rfl rfl rfl rfl ?_
  refine v_dup (pc2 := 31) S dX5_init_30 rfl rfl ?_
  refine v_callIN (rt2 := none) (pc2 := 34) (As := []) (rest := [.ref q9, .ref a0]) S (c_X0_init l G q9 _ hw) mf_X0_init u_111 u_112 rfl rfl rfl ⟨rfl, rfl⟩ ⟨Nat.le_of_ble_eq_true rfl, Nat.le_of_ble_eq_true rfl⟩ ⟨Nat.le_of_ble_eq_true rfl, Nat.le_of_ble_eq_true rfl⟩ (Nat.le_of_ble_eq_true rfl) dX5_init_31 (frM (([(a0, .inr (5, [.ref q1, .ref q5, .null, .int 0]))] : va_W) ++ ((wLoom G (q1, b3r) v4.1 v4.2.1 v4.2.2.1 v4.2.2.2.1 v4.2.2.2.2.1 v4.2.2.2.2.2) ++ (wGu G (q5, b7r) v8.1 v8.2.1 v8.2.2))) [(q9, .inr (0, [.null, .null, .int 0, .int 0, .int 0, .int 0, .int 0]))] []) rfl (pv (fun u10 hw => ?_))
  obtain ⟨⟨b11, b11r⟩, v12⟩ := u10
  obtain ⟨hq, hw⟩ := hw
  have hq : b11 = q9 := hq
  subst b11
  refine v_to (([(a0, .inr (5, [.ref q1, .ref q5, .null, .int 0]))] : va_W) ++ ((wLoom G (q1, b3r) v4.1 v4.2.1 v4.2.2.1 v4.2.2.2.1 v4.2.2.2.2.1 v4.2.2.2.2.2) ++ ((wGu G (q5, b7r) v8.1 v8.2.1 v8.2.2) ++ (wAc G (q9, b11r) v12.1 v12.2.1 v12.2.2.1 v12.2.2.2.1 v12.2.2.2.2.1 v12.2.2.2.2.2.1 v12.2.2.2.2.2.2)))) 34 [(0, .ref a0)] _ [.ref q9, .ref a0] rfl rfl rfl rfl ?_
  refine v_putF (ws2 := ([(a0, .inr (5, [.ref q1, .ref q5, .ref q9, .int 0]))] : va_W) ++ ((wLoom G (q1, b3r) v4.1 v4.2.1 v4.2.2.1 v4.2.2.2.1 v4.2.2.2.2.1 v4.2.2.2.2.2) ++ ((wGu G (q5, b7r) v8.1 v8.2.1 v8.2.2) ++ (wAc G (q9, b11r) v12.1 v12.2.1 v12.2.2.1 v12.2.2.2.1 v12.2.2.2.2.1 v12.2.2.2.2.2.1 v12.2.2.2.2.2.2)))) (pc2 := 37) S (show meth.name = "<init>" from hname) gf_X5_28 pf_X5_2 rfl 0 rfl rfl rfl (Nat.le_of_ble_eq_true rfl) rfl dX5_init_34 rfl ?_
  refine v_aload_n (pc2 := 38) S 0 dX5_init_37 rfl rfl rfl ?_
  refine v_iconst (v := 0) (pc2 := 39) S dX5_init_38 (by decide) rfl ?_
  refine v_put (ws2 := ([(a0, .inr (5, [.ref q1, .ref q5, .ref q9, .int (0 : Int32)]))] : va_W) ++ ((wLoom G (q1, b3r) v4.1 v4.2.1 v4.2.2.1 v4.2.2.2.1 v4.2.2.2.2.1 v4.2.2.2.2.2) ++ ((wGu G (q5, b7r) v8.1 v8.2.1 v8.2.2) ++ (wAc G (q9, b11r) v12.1 v12.2.1 v12.2.2.1 v12.2.2.2.1 v12.2.2.2.2.1 v12.2.2.2.2.2.1 v12.2.2.2.2.2.2)))) (pc2 := 42) S gf_X5_32 pf_X5_3 0 rfl rfl rfl (Nat.le_of_ble_eq_true rfl) rfl dX5_init_39 rfl ?_
  refine v_to (wSt G (a0, (q1, b3r), (q5, b7r), (q9, b11r)) v4 v8 v12 (0 : Int32)) 42 [(0, .ref (((a0, (q1, b3r), (q5, b7r), (q9, b11r))).1))] _ [] rfl rfl rfl rfl ?_
  exact v_vret S ⟨((a0, (q1, b3r), (q5, b7r), (q9, b11r)), (v4, v8, v12, (0 : Int32))), rfl, rfl, rfl, hw⟩ dX5_init_42
set_option maxHeartbeats 4000000 in
set_option maxRecDepth 100000 in
theorem c_X5_copy (l : Launch) (G : GG) (a0 : StA) (a1 : StA) (v0 : StV) (v1 : StV) (Q : StV → Prop) (hw : wp_X5_copy v0 v1 Q) : Con l G yX5_copy cX5_copy 2 none { frames := 2, cells := 0, slots := 0, locals := 81 } [.ref a0.1, .ref a1.1] (wSt G a0 v0.1 v0.2.1 v0.2.2.1 v0.2.2.2 ++ wSt G a1 v1.1 v1.2.1 v1.2.2.1 v1.2.2.2) (PV (fun u : StV => wSt G a0 u.1 u.2.1 u.2.2.1 u.2.2.2 ++ wSt G a1 v1.1 v1.2.1 v1.2.2.1 v1.2.2.2) Q) 0 0 := by
  refine con_of RX5 rfl (by decide) [(0, .ref a0.1), (1, .ref a1.1)] rfl (Nat.le_of_ble_eq_true rfl) ?_
  intro p e s m args below meth c S hname
  refine v_aload_n (pc2 := 1) S 0 dX5_copy_0 rfl rfl rfl ?_
  refine v_get (v := .ref a0.2.1.1) (pc2 := 4) S gf_X5_12 0 rfl rfl dX5_copy_1 rfl ?_
  refine v_aload_n (pc2 := 5) S 1 dX5_copy_4 rfl rfl rfl ?_
  refine v_get (v := .ref a1.2.1.1) (pc2 := 8) S gf_X5_12 14 rfl rfl dX5_copy_5 rfl ?_
  refine v_callV (pc2 := 11) (As := [.ref a1.2.1.1]) (rest := []) S (c_X3_copy l G a0.2.1 a1.2.1 v0.1 v1.1 _ hw) mf_X3_copy u_443 u_444 u_445 0 3 rfl rfl rfl rfl ⟨rfl, rfl⟩ ⟨Nat.le_of_ble_eq_true rfl, Nat.le_of_ble_eq_true rfl⟩ ⟨Nat.le_of_ble_eq_true rfl, Nat.le_of_ble_eq_true rfl⟩ (Nat.le_of_ble_eq_true rfl) dX5_copy_8 (frP (Rs := ([(a0.1, .inr (5, [.ref a0.2.1.1, .ref a0.2.2.1.1, .ref a0.2.2.2.1, .int v0.2.2.2]))] : va_W) ++ ((wGu G a0.2.2.1 v0.2.1.1 v0.2.1.2.1 v0.2.1.2.2) ++ ((wAc G a0.2.2.2 v0.2.2.1.1 v0.2.2.1.2.1 v0.2.2.1.2.2.1 v0.2.2.1.2.2.2.1 v0.2.2.1.2.2.2.2.1 v0.2.2.1.2.2.2.2.2.1 v0.2.2.1.2.2.2.2.2.2) ++ (([(a1.1, .inr (5, [.ref a1.2.1.1, .ref a1.2.2.1.1, .ref a1.2.2.2.1, .int v1.2.2.2]))] : va_W) ++ ((wGu G a1.2.2.1 v1.2.1.1 v1.2.1.2.1 v1.2.1.2.2) ++ (wAc G a1.2.2.2 v1.2.2.1.1 v1.2.2.1.2.1 v1.2.2.1.2.2.1 v1.2.2.1.2.2.2.1 v1.2.2.1.2.2.2.2.1 v1.2.2.1.2.2.2.2.2.1 v1.2.2.1.2.2.2.2.2.2)))))) (gperm [[(a0.1, .inr (5, [.ref a0.2.1.1, .ref a0.2.2.1.1, .ref a0.2.2.2.1, .int v0.2.2.2]))], wLoom G a0.2.1 v0.1.1 v0.1.2.1 v0.1.2.2.1 v0.1.2.2.2.1 v0.1.2.2.2.2.1 v0.1.2.2.2.2.2, wGu G a0.2.2.1 v0.2.1.1 v0.2.1.2.1 v0.2.1.2.2, wAc G a0.2.2.2 v0.2.2.1.1 v0.2.2.1.2.1 v0.2.2.1.2.2.1 v0.2.2.1.2.2.2.1 v0.2.2.1.2.2.2.2.1 v0.2.2.1.2.2.2.2.2.1 v0.2.2.1.2.2.2.2.2.2, [(a1.1, .inr (5, [.ref a1.2.1.1, .ref a1.2.2.1.1, .ref a1.2.2.2.1, .int v1.2.2.2]))], wLoom G a1.2.1 v1.1.1 v1.1.2.1 v1.1.2.2.1 v1.1.2.2.2.1 v1.1.2.2.2.2.1 v1.1.2.2.2.2.2, wGu G a1.2.2.1 v1.2.1.1 v1.2.1.2.1 v1.2.1.2.2, wAc G a1.2.2.2 v1.2.2.1.1 v1.2.2.1.2.1 v1.2.2.1.2.2.1 v1.2.2.1.2.2.2.1 v1.2.2.1.2.2.2.2.1 v1.2.2.1.2.2.2.2.2.1 v1.2.2.1.2.2.2.2.2.2] [1, 5, 0, 2, 3, 4, 6, 7] rfl)) rfl (pv (fun u2 hw => ?_))
  refine v_perm _ (gperm [wLoom G a0.2.1 u2.1 u2.2.1 u2.2.2.1 u2.2.2.2.1 u2.2.2.2.2.1 u2.2.2.2.2.2, wLoom G a1.2.1 v1.1.1 v1.1.2.1 v1.1.2.2.1 v1.1.2.2.2.1 v1.1.2.2.2.2.1 v1.1.2.2.2.2.2, [(a0.1, .inr (5, [.ref a0.2.1.1, .ref a0.2.2.1.1, .ref a0.2.2.2.1, .int v0.2.2.2]))], wGu G a0.2.2.1 v0.2.1.1 v0.2.1.2.1 v0.2.1.2.2, wAc G a0.2.2.2 v0.2.2.1.1 v0.2.2.1.2.1 v0.2.2.1.2.2.1 v0.2.2.1.2.2.2.1 v0.2.2.1.2.2.2.2.1 v0.2.2.1.2.2.2.2.2.1 v0.2.2.1.2.2.2.2.2.2, [(a1.1, .inr (5, [.ref a1.2.1.1, .ref a1.2.2.1.1, .ref a1.2.2.2.1, .int v1.2.2.2]))], wGu G a1.2.2.1 v1.2.1.1 v1.2.1.2.1 v1.2.1.2.2, wAc G a1.2.2.2 v1.2.2.1.1 v1.2.2.1.2.1 v1.2.2.1.2.2.1 v1.2.2.1.2.2.2.1 v1.2.2.1.2.2.2.2.1 v1.2.2.1.2.2.2.2.2.1 v1.2.2.1.2.2.2.2.2.2] [2, 0, 3, 4, 5, 1, 6, 7] rfl) ?_
  refine v_to (wSt G a0 u2 v0.2.1 v0.2.2.1 v0.2.2.2 ++ wSt G a1 v1.1 v1.2.1 v1.2.2.1 v1.2.2.2) 11 [(0, .ref a0.1), (1, .ref a1.1)] _ [] rfl rfl rfl rfl ?_
  refine v_aload_n (pc2 := 12) S 0 dX5_copy_11 rfl rfl rfl ?_
  refine v_get (v := .ref a0.2.2.1.1) (pc2 := 15) S gf_X5_21 0 rfl rfl dX5_copy_12 rfl ?_
  refine v_aload_n (pc2 := 16) S 1 dX5_copy_15 rfl rfl rfl ?_
  refine v_get (v := .ref a1.2.2.1.1) (pc2 := 19) S gf_X5_21 14 rfl rfl dX5_copy_16 rfl ?_
  refine v_callV (pc2 := 22) (As := [.ref a1.2.2.1.1]) (rest := []) S (c_X1_copy l G a0.2.2.1 a1.2.2.1 v0.2.1 v1.2.1 _ hw) mf_X1_copy u_450 u_451 u_452 0 1 rfl rfl rfl rfl ⟨rfl, rfl⟩ ⟨Nat.le_of_ble_eq_true rfl, Nat.le_of_ble_eq_true rfl⟩ ⟨Nat.le_of_ble_eq_true rfl, Nat.le_of_ble_eq_true rfl⟩ (Nat.le_of_ble_eq_true rfl) dX5_copy_19 (frP (Rs := ([(a0.1, .inr (5, [.ref a0.2.1.1, .ref a0.2.2.1.1, .ref a0.2.2.2.1, .int v0.2.2.2]))] : va_W) ++ ((wLoom G a0.2.1 u2.1 u2.2.1 u2.2.2.1 u2.2.2.2.1 u2.2.2.2.2.1 u2.2.2.2.2.2) ++ ((wAc G a0.2.2.2 v0.2.2.1.1 v0.2.2.1.2.1 v0.2.2.1.2.2.1 v0.2.2.1.2.2.2.1 v0.2.2.1.2.2.2.2.1 v0.2.2.1.2.2.2.2.2.1 v0.2.2.1.2.2.2.2.2.2) ++ (([(a1.1, .inr (5, [.ref a1.2.1.1, .ref a1.2.2.1.1, .ref a1.2.2.2.1, .int v1.2.2.2]))] : va_W) ++ ((wLoom G a1.2.1 v1.1.1 v1.1.2.1 v1.1.2.2.1 v1.1.2.2.2.1 v1.1.2.2.2.2.1 v1.1.2.2.2.2.2) ++ (wAc G a1.2.2.2 v1.2.2.1.1 v1.2.2.1.2.1 v1.2.2.1.2.2.1 v1.2.2.1.2.2.2.1 v1.2.2.1.2.2.2.2.1 v1.2.2.1.2.2.2.2.2.1 v1.2.2.1.2.2.2.2.2.2)))))) (gperm [[(a0.1, .inr (5, [.ref a0.2.1.1, .ref a0.2.2.1.1, .ref a0.2.2.2.1, .int v0.2.2.2]))], wLoom G a0.2.1 u2.1 u2.2.1 u2.2.2.1 u2.2.2.2.1 u2.2.2.2.2.1 u2.2.2.2.2.2, wGu G a0.2.2.1 v0.2.1.1 v0.2.1.2.1 v0.2.1.2.2, wAc G a0.2.2.2 v0.2.2.1.1 v0.2.2.1.2.1 v0.2.2.1.2.2.1 v0.2.2.1.2.2.2.1 v0.2.2.1.2.2.2.2.1 v0.2.2.1.2.2.2.2.2.1 v0.2.2.1.2.2.2.2.2.2, [(a1.1, .inr (5, [.ref a1.2.1.1, .ref a1.2.2.1.1, .ref a1.2.2.2.1, .int v1.2.2.2]))], wLoom G a1.2.1 v1.1.1 v1.1.2.1 v1.1.2.2.1 v1.1.2.2.2.1 v1.1.2.2.2.2.1 v1.1.2.2.2.2.2, wGu G a1.2.2.1 v1.2.1.1 v1.2.1.2.1 v1.2.1.2.2, wAc G a1.2.2.2 v1.2.2.1.1 v1.2.2.1.2.1 v1.2.2.1.2.2.1 v1.2.2.1.2.2.2.1 v1.2.2.1.2.2.2.2.1 v1.2.2.1.2.2.2.2.2.1 v1.2.2.1.2.2.2.2.2.2] [2, 6, 0, 1, 3, 4, 5, 7] rfl)) rfl (pv (fun u4 hw => ?_))
  refine v_perm _ (gperm [wGu G a0.2.2.1 u4.1 u4.2.1 u4.2.2, wGu G a1.2.2.1 v1.2.1.1 v1.2.1.2.1 v1.2.1.2.2, [(a0.1, .inr (5, [.ref a0.2.1.1, .ref a0.2.2.1.1, .ref a0.2.2.2.1, .int v0.2.2.2]))], wLoom G a0.2.1 u2.1 u2.2.1 u2.2.2.1 u2.2.2.2.1 u2.2.2.2.2.1 u2.2.2.2.2.2, wAc G a0.2.2.2 v0.2.2.1.1 v0.2.2.1.2.1 v0.2.2.1.2.2.1 v0.2.2.1.2.2.2.1 v0.2.2.1.2.2.2.2.1 v0.2.2.1.2.2.2.2.2.1 v0.2.2.1.2.2.2.2.2.2, [(a1.1, .inr (5, [.ref a1.2.1.1, .ref a1.2.2.1.1, .ref a1.2.2.2.1, .int v1.2.2.2]))], wLoom G a1.2.1 v1.1.1 v1.1.2.1 v1.1.2.2.1 v1.1.2.2.2.1 v1.1.2.2.2.2.1 v1.1.2.2.2.2.2, wAc G a1.2.2.2 v1.2.2.1.1 v1.2.2.1.2.1 v1.2.2.1.2.2.1 v1.2.2.1.2.2.2.1 v1.2.2.1.2.2.2.2.1 v1.2.2.1.2.2.2.2.2.1 v1.2.2.1.2.2.2.2.2.2] [2, 3, 0, 4, 5, 6, 1, 7] rfl) ?_
  refine v_to (wSt G a0 u2 u4 v0.2.2.1 v0.2.2.2 ++ wSt G a1 v1.1 v1.2.1 v1.2.2.1 v1.2.2.2) 22 [(0, .ref a0.1), (1, .ref a1.1)] _ [] rfl rfl rfl rfl ?_
  refine v_aload_n (pc2 := 23) S 0 dX5_copy_22 rfl rfl rfl ?_
  refine v_get (v := .ref a0.2.2.2.1) (pc2 := 26) S gf_X5_28 0 rfl rfl dX5_copy_23 rfl ?_
  refine v_aload_n (pc2 := 27) S 1 dX5_copy_26 rfl rfl rfl ?_
  refine v_get (v := .ref a1.2.2.2.1) (pc2 := 30) S gf_X5_28 14 rfl rfl dX5_copy_27 rfl ?_
  refine v_callV (pc2 := 33) (As := [.ref a1.2.2.2.1]) (rest := []) S (c_X0_copy l G a0.2.2.2 a1.2.2.2 v0.2.2.1 v1.2.2.1 _ hw) mf_X0_copy u_455 u_456 u_457 0 0 rfl rfl rfl rfl ⟨rfl, rfl⟩ ⟨Nat.le_of_ble_eq_true rfl, Nat.le_of_ble_eq_true rfl⟩ ⟨Nat.le_of_ble_eq_true rfl, Nat.le_of_ble_eq_true rfl⟩ (Nat.le_of_ble_eq_true rfl) dX5_copy_30 (frP (Rs := ([(a0.1, .inr (5, [.ref a0.2.1.1, .ref a0.2.2.1.1, .ref a0.2.2.2.1, .int v0.2.2.2]))] : va_W) ++ ((wLoom G a0.2.1 u2.1 u2.2.1 u2.2.2.1 u2.2.2.2.1 u2.2.2.2.2.1 u2.2.2.2.2.2) ++ ((wGu G a0.2.2.1 u4.1 u4.2.1 u4.2.2) ++ (([(a1.1, .inr (5, [.ref a1.2.1.1, .ref a1.2.2.1.1, .ref a1.2.2.2.1, .int v1.2.2.2]))] : va_W) ++ ((wLoom G a1.2.1 v1.1.1 v1.1.2.1 v1.1.2.2.1 v1.1.2.2.2.1 v1.1.2.2.2.2.1 v1.1.2.2.2.2.2) ++ (wGu G a1.2.2.1 v1.2.1.1 v1.2.1.2.1 v1.2.1.2.2)))))) (gperm [[(a0.1, .inr (5, [.ref a0.2.1.1, .ref a0.2.2.1.1, .ref a0.2.2.2.1, .int v0.2.2.2]))], wLoom G a0.2.1 u2.1 u2.2.1 u2.2.2.1 u2.2.2.2.1 u2.2.2.2.2.1 u2.2.2.2.2.2, wGu G a0.2.2.1 u4.1 u4.2.1 u4.2.2, wAc G a0.2.2.2 v0.2.2.1.1 v0.2.2.1.2.1 v0.2.2.1.2.2.1 v0.2.2.1.2.2.2.1 v0.2.2.1.2.2.2.2.1 v0.2.2.1.2.2.2.2.2.1 v0.2.2.1.2.2.2.2.2.2, [(a1.1, .inr (5, [.ref a1.2.1.1, .ref a1.2.2.1.1, .ref a1.2.2.2.1, .int v1.2.2.2]))], wLoom G a1.2.1 v1.1.1 v1.1.2.1 v1.1.2.2.1 v1.1.2.2.2.1 v1.1.2.2.2.2.1 v1.1.2.2.2.2.2, wGu G a1.2.2.1 v1.2.1.1 v1.2.1.2.1 v1.2.1.2.2, wAc G a1.2.2.2 v1.2.2.1.1 v1.2.2.1.2.1 v1.2.2.1.2.2.1 v1.2.2.1.2.2.2.1 v1.2.2.1.2.2.2.2.1 v1.2.2.1.2.2.2.2.2.1 v1.2.2.1.2.2.2.2.2.2] [3, 7, 0, 1, 2, 4, 5, 6] rfl)) rfl (pv (fun u6 hw => ?_))
  refine v_perm _ (gperm [wAc G a0.2.2.2 u6.1 u6.2.1 u6.2.2.1 u6.2.2.2.1 u6.2.2.2.2.1 u6.2.2.2.2.2.1 u6.2.2.2.2.2.2, wAc G a1.2.2.2 v1.2.2.1.1 v1.2.2.1.2.1 v1.2.2.1.2.2.1 v1.2.2.1.2.2.2.1 v1.2.2.1.2.2.2.2.1 v1.2.2.1.2.2.2.2.2.1 v1.2.2.1.2.2.2.2.2.2, [(a0.1, .inr (5, [.ref a0.2.1.1, .ref a0.2.2.1.1, .ref a0.2.2.2.1, .int v0.2.2.2]))], wLoom G a0.2.1 u2.1 u2.2.1 u2.2.2.1 u2.2.2.2.1 u2.2.2.2.2.1 u2.2.2.2.2.2, wGu G a0.2.2.1 u4.1 u4.2.1 u4.2.2, [(a1.1, .inr (5, [.ref a1.2.1.1, .ref a1.2.2.1.1, .ref a1.2.2.2.1, .int v1.2.2.2]))], wLoom G a1.2.1 v1.1.1 v1.1.2.1 v1.1.2.2.1 v1.1.2.2.2.1 v1.1.2.2.2.2.1 v1.1.2.2.2.2.2, wGu G a1.2.2.1 v1.2.1.1 v1.2.1.2.1 v1.2.1.2.2] [2, 3, 4, 0, 5, 6, 7, 1] rfl) ?_
  refine v_to (wSt G a0 u2 u4 u6 v0.2.2.2 ++ wSt G a1 v1.1 v1.2.1 v1.2.2.1 v1.2.2.2) 33 [(0, .ref a0.1), (1, .ref a1.1)] _ [] rfl rfl rfl rfl ?_
  refine v_aload_n (pc2 := 34) S 0 dX5_copy_33 rfl rfl rfl ?_
  refine v_aload_n (pc2 := 35) S 1 dX5_copy_34 rfl rfl rfl ?_
  refine v_get (v := .int v1.2.2.2) (pc2 := 38) S gf_X5_32 14 rfl rfl dX5_copy_35 rfl ?_
  refine v_nm (fun z7 ez7 => ?_)
  have hw := hw z7 ez7
  refine v_put (ws2 := wSt G a0 u2 u4 u6 z7 ++ wSt G a1 v1.1 v1.2.1 v1.2.2.1 v1.2.2.2) (pc2 := 41) S gf_X5_32 pf_X5_3 0 rfl rfl rfl (Nat.le_of_ble_eq_true rfl) rfl dX5_copy_38 rfl ?_
  exact v_vret S ⟨(u2, u4, u6, z7), rfl, rfl, hw⟩ dX5_copy_41
set_option maxHeartbeats 4000000 in
set_option maxRecDepth 100000 in
theorem c_X5_isOpen (l : Launch) (G : GG) (a0 : StA) (v0 : StV) (i0 : Int32) (Q : Int32 → Prop) (hw : wp_X5_isOpen v0 i0 Q) : Con l G yX5_isOpen cX5_isOpen 2 (some .boolean) { frames := 1, cells := 0, slots := 0, locals := 21 } [.ref a0.1, .int i0] (wSt G a0 v0.1 v0.2.1 v0.2.2.1 v0.2.2.2) (PB (fun _ : Unit => wSt G a0 v0.1 v0.2.1 v0.2.2.1 v0.2.2.2) (fun r _ => Q r)) 0 0 := by
  refine con_of RX5 rfl (by decide) [(0, .ref a0.1), (1, .int i0)] rfl (Nat.le_of_ble_eq_true rfl) ?_
  intro p e s m args below meth c S hname
  refine v_aload_n (pc2 := 1) S 0 dX5_isOpen_0 rfl rfl rfl ?_
  refine v_get (v := .int v0.2.2.2) (pc2 := 4) S gf_X5_32 0 rfl rfl dX5_isOpen_1 rfl ?_
  refine v_iload_n (pc2 := 5) S 1 dX5_isOpen_4 rfl rfl rfl ?_
  refine v_callSN (pc2 := 8) (As := [.int v0.2.2.2, .int i0]) (rest := []) S (c_X8_has l G v0.2.2.2 i0 _ hw) mf_X8_has u_275 u_276 rfl rfl ⟨rfl, rfl⟩ ⟨Nat.le_of_ble_eq_true rfl, Nat.le_of_ble_eq_true rfl⟩ ⟨Nat.le_of_ble_eq_true rfl, Nat.le_of_ble_eq_true rfl⟩ (Nat.le_of_ble_eq_true rfl) dX5_isOpen_5 (frM [] [] _) rfl (pb (fun r1 u2 br1 hw => ?_))
  refine v_to (wSt G a0 v0.1 v0.2.1 v0.2.2.1 v0.2.2.2) 8 [(0, .ref a0.1), (1, .int i0)] _ [.int r1] rfl rfl rfl rfl ?_
  exact v_zret S br1 ⟨r1, (), rfl, br1, rfl, hw⟩ dX5_isOpen_8
set_option maxHeartbeats 4000000 in
set_option maxRecDepth 100000 in
theorem c_X5_shutDoors (l : Launch) (G : GG) (a0 : StA) (v0 : StV) (Q : Int32 → Prop) (hw : wp_X5_shutDoors v0 Q) : Con l G yX5_shutDoors cX5_shutDoors 1 (some .int) { frames := 0, cells := 0, slots := 0, locals := 0 } [.ref a0.1] (wSt G a0 v0.1 v0.2.1 v0.2.2.1 v0.2.2.2) (PI (fun _ : Unit => wSt G a0 v0.1 v0.2.1 v0.2.2.1 v0.2.2.2) (fun r _ => Q r)) 0 0 := by
  refine con_of RX5 rfl (by decide) [(0, .ref a0.1)] rfl (Nat.le_of_ble_eq_true rfl) ?_
  intro p e s m args below meth c S hname
  refine v_sipush (v := 1023) (pc2 := 3) S dX5_shutDoors_0 (by decide) rfl ?_
  refine v_aload_n (pc2 := 4) S 0 dX5_shutDoors_3 rfl rfl rfl ?_
  refine v_get (v := .int v0.2.2.2) (pc2 := 7) S gf_X5_32 0 rfl rfl dX5_shutDoors_4 rfl ?_
  refine v_iconst (v := -1) (pc2 := 8) S dX5_shutDoors_7 (by decide) rfl ?_
  refine v_ixor (pc2 := 9) S dX5_shutDoors_8 rfl ?_
  refine v_iand (pc2 := 10) S dX5_shutDoors_9 rfl ?_
  exact v_iret S ⟨(1023 : Int32) &&& (v0.2.2.2 ^^^ (-1 : Int32)), (), rfl, rfl, hw⟩ dX5_shutDoors_10
set_option maxHeartbeats 4000000 in
set_option maxRecDepth 100000 in
theorem c_X5_reasonNotToOpen (l : Launch) (G : GG) (a0 : StA) (v0 : StV) (i0 : Int32) (Q : Int32 → Prop) (hw : wp_X5_reasonNotToOpen v0 i0 Q) : Con l G yX5_reasonNotToOpen cX5_reasonNotToOpen 2 (some .int) { frames := 2, cells := 0, slots := 0, locals := 44 } [.ref a0.1, .int i0] (wSt G a0 v0.1 v0.2.1 v0.2.2.1 v0.2.2.2) (PI (fun _ : Unit => wSt G a0 v0.1 v0.2.1 v0.2.2.1 v0.2.2.2) (fun r _ => Q r)) 0 0 := by
  refine con_of RX5 rfl (by decide) [(0, .ref a0.1), (1, .int i0)] rfl (Nat.le_of_ble_eq_true rfl) ?_
  intro p e s m args below meth c S hname
  refine v_aload_n (pc2 := 1) S 0 dX5_reasonNotToOpen_0 rfl rfl rfl ?_
  refine v_iload_n (pc2 := 2) S 1 dX5_reasonNotToOpen_1 rfl rfl rfl ?_
  refine v_callV (pc2 := 5) (As := [.int i0]) (rest := []) S (c_X5_isOpen l G a0 v0 i0 _ hw) mf_X5_isOpen u_282 u_283 u_284 0 5 rfl rfl rfl rfl ⟨rfl, rfl⟩ ⟨Nat.le_of_ble_eq_true rfl, Nat.le_of_ble_eq_true rfl⟩ ⟨Nat.le_of_ble_eq_true rfl, Nat.le_of_ble_eq_true rfl⟩ (Nat.le_of_ble_eq_true rfl) dX5_reasonNotToOpen_2 (frW _) rfl (pb (fun r1 u2 br1 hw => ?_))
  refine v_to (wSt G a0 v0.1 v0.2.1 v0.2.2.1 v0.2.2.2) 5 [(0, .ref a0.1), (1, .int i0)] _ [.int r1] rfl rfl rfl rfl ?_
  refine v_if_eq (pc2 := 8) (tgt := 10) S dX5_reasonNotToOpen_5 (by decide) rfl (fun c3 => ?_) (fun c3 => ?_)
  · have hw := hw.1 c3
    refine v_aload_n (pc2 := 11) S 0 dX5_reasonNotToOpen_10 rfl rfl rfl ?_
    refine v_get (v := .ref a0.2.1.1) (pc2 := 14) S gf_X5_12 0 rfl rfl dX5_reasonNotToOpen_11 rfl ?_
    refine v_aload_n (pc2 := 15) S 0 dX5_reasonNotToOpen_14 rfl rfl rfl ?_
    refine v_get (v := .int v0.2.2.2) (pc2 := 18) S gf_X5_32 0 rfl rfl dX5_reasonNotToOpen_15 rfl ?_
    refine v_callV (pc2 := 21) (As := [.int v0.2.2.2]) (rest := []) S (c_X3_heldBy l G a0.2.1 v0.1 v0.2.2.2 _ hw) mf_X3_heldBy u_286 u_287 u_288 0 3 rfl rfl rfl rfl ⟨rfl, rfl⟩ ⟨Nat.le_of_ble_eq_true rfl, Nat.le_of_ble_eq_true rfl⟩ ⟨Nat.le_of_ble_eq_true rfl, Nat.le_of_ble_eq_true rfl⟩ (Nat.le_of_ble_eq_true rfl) dX5_reasonNotToOpen_18 (frM ([(a0.1, .inr (5, [.ref a0.2.1.1, .ref a0.2.2.1.1, .ref a0.2.2.2.1, .int v0.2.2.2]))]) (wLoom G a0.2.1 v0.1.1 v0.1.2.1 v0.1.2.2.1 v0.1.2.2.2.1 v0.1.2.2.2.2.1 v0.1.2.2.2.2.2) ((wGu G a0.2.2.1 v0.2.1.1 v0.2.1.2.1 v0.2.1.2.2) ++ (wAc G a0.2.2.2 v0.2.2.1.1 v0.2.2.1.2.1 v0.2.2.1.2.2.1 v0.2.2.1.2.2.2.1 v0.2.2.1.2.2.2.2.1 v0.2.2.1.2.2.2.2.2.1 v0.2.2.1.2.2.2.2.2.2))) rfl (pi (fun r4 u5 hw => ?_))
    refine v_to (wSt G a0 v0.1 v0.2.1 v0.2.2.1 v0.2.2.2) 21 [(0, .ref a0.1), (1, .int i0)] _ [.int r4] rfl rfl rfl rfl ?_
    refine v_iload_n (pc2 := 22) S 1 dX5_reasonNotToOpen_21 rfl rfl rfl ?_
    refine v_callSN (pc2 := 25) (As := [.int r4, .int i0]) (rest := []) S (c_X8_has l G r4 i0 _ hw) mf_X8_has u_275 u_276 rfl rfl ⟨rfl, rfl⟩ ⟨Nat.le_of_ble_eq_true rfl, Nat.le_of_ble_eq_true rfl⟩ ⟨Nat.le_of_ble_eq_true rfl, Nat.le_of_ble_eq_true rfl⟩ (Nat.le_of_ble_eq_true rfl) dX5_reasonNotToOpen_22 (frM [] [] _) rfl (pb (fun r6 u7 br6 hw => ?_))
    refine v_to (wSt G a0 v0.1 v0.2.1 v0.2.2.1 v0.2.2.2) 25 [(0, .ref a0.1), (1, .int i0)] _ [.int r6] rfl rfl rfl rfl ?_
    refine v_if_eq (pc2 := 28) (tgt := 32) S dX5_reasonNotToOpen_25 (by decide) rfl (fun c8 => ?_) (fun c8 => ?_)
    · have hw := hw.1 c8
      refine v_iconst (v := 0) (pc2 := 33) S dX5_reasonNotToOpen_32 (by decide) rfl ?_
      exact v_iret S ⟨(0 : Int32), (), rfl, rfl, hw⟩ dX5_reasonNotToOpen_33
    · have hw := hw.2 c8
      refine v_iconst (v := 2) (pc2 := 29) S dX5_reasonNotToOpen_28 (by decide) rfl ?_
      refine v_goto (tgt := 33) S dX5_reasonNotToOpen_29 (by decide) ?_
      exact v_iret S ⟨(2 : Int32), (), rfl, rfl, hw⟩ dX5_reasonNotToOpen_33
  · have hw := hw.2 c3
    refine v_iconst (v := 1) (pc2 := 9) S dX5_reasonNotToOpen_8 (by decide) rfl ?_
    exact v_iret S ⟨(1 : Int32), (), rfl, rfl, hw⟩ dX5_reasonNotToOpen_9
set_option maxHeartbeats 4000000 in
set_option maxRecDepth 100000 in
theorem c_X5_reasonNotToShut (l : Launch) (G : GG) (a0 : StA) (v0 : StV) (i0 : Int32) (Q : Int32 → Prop) (hw : wp_X5_reasonNotToShut v0 i0 Q) : Con l G yX5_reasonNotToShut cX5_reasonNotToShut 2 (some .int) { frames := 2, cells := 0, slots := 0, locals := 42 } [.ref a0.1, .int i0] (wSt G a0 v0.1 v0.2.1 v0.2.2.1 v0.2.2.2) (PI (fun _ : Unit => wSt G a0 v0.1 v0.2.1 v0.2.2.1 v0.2.2.2) (fun r _ => Q r)) 0 0 := by
  refine con_of RX5 rfl (by decide) [(0, .ref a0.1), (1, .int i0)] rfl (Nat.le_of_ble_eq_true rfl) ?_
  intro p e s m args below meth c S hname
  refine v_aload_n (pc2 := 1) S 0 dX5_reasonNotToShut_0 rfl rfl rfl ?_
  refine v_iload_n (pc2 := 2) S 1 dX5_reasonNotToShut_1 rfl rfl rfl ?_
  refine v_callV (pc2 := 5) (As := [.int i0]) (rest := []) S (c_X5_isOpen l G a0 v0 i0 _ hw) mf_X5_isOpen u_282 u_283 u_284 0 5 rfl rfl rfl rfl ⟨rfl, rfl⟩ ⟨Nat.le_of_ble_eq_true rfl, Nat.le_of_ble_eq_true rfl⟩ ⟨Nat.le_of_ble_eq_true rfl, Nat.le_of_ble_eq_true rfl⟩ (Nat.le_of_ble_eq_true rfl) dX5_reasonNotToShut_2 (frW _) rfl (pb (fun r1 u2 br1 hw => ?_))
  refine v_to (wSt G a0 v0.1 v0.2.1 v0.2.2.1 v0.2.2.2) 5 [(0, .ref a0.1), (1, .int i0)] _ [.int r1] rfl rfl rfl rfl ?_
  refine v_if_eq (pc2 := 8) (tgt := 12) S dX5_reasonNotToShut_5 (by decide) rfl (fun c3 => ?_) (fun c3 => ?_)
  · have hw := hw.1 c3
    refine v_iconst (v := 3) (pc2 := 13) S dX5_reasonNotToShut_12 (by decide) rfl ?_
    exact v_iret S ⟨(3 : Int32), (), rfl, rfl, hw⟩ dX5_reasonNotToShut_13
  · have hw := hw.2 c3
    refine v_iconst (v := 0) (pc2 := 9) S dX5_reasonNotToShut_8 (by decide) rfl ?_
    refine v_goto (tgt := 13) S dX5_reasonNotToShut_9 (by decide) ?_
    exact v_iret S ⟨(0 : Int32), (), rfl, rfl, hw⟩ dX5_reasonNotToShut_13
set_option maxHeartbeats 4000000 in
set_option maxRecDepth 100000 in
theorem c_X5_isAtDoor (l : Launch) (G : GG) (a0 : StA) (v0 : StV) (i0 : Int32) (i1 : Int32) (Q : Int32 → Prop) (hw : wp_X5_isAtDoor v0 i0 i1 Q) : Con l G yX5_isAtDoor cX5_isAtDoor 3 (some .boolean) { frames := 1, cells := 0, slots := 0, locals := 22 } [.ref a0.1, .int i0, .int i1] (wSt G a0 v0.1 v0.2.1 v0.2.2.1 v0.2.2.2) (PB (fun _ : Unit => wSt G a0 v0.1 v0.2.1 v0.2.2.1 v0.2.2.2) (fun r _ => Q r)) 0 0 := by
  refine con_of RX5 rfl (by decide) [(0, .ref a0.1), (1, .int i0), (2, .int i1)] rfl (Nat.le_of_ble_eq_true rfl) ?_
  intro p e s m args below meth c S hname
  refine v_aload_n (pc2 := 1) S 0 dX5_isAtDoor_0 rfl rfl rfl ?_
  refine v_get (v := .ref a0.2.1.1) (pc2 := 4) S gf_X5_12 0 rfl rfl dX5_isAtDoor_1 rfl ?_
  refine v_iload_n (pc2 := 5) S 2 dX5_isAtDoor_4 rfl rfl rfl ?_
  refine v_aload_n (pc2 := 6) S 0 dX5_isAtDoor_5 rfl rfl rfl ?_
  refine v_get (v := .ref a0.2.2.1.1) (pc2 := 9) S gf_X5_21 0 rfl rfl dX5_isAtDoor_6 rfl ?_
  refine v_getN (v := .ref a0.2.2.1.2.1) (pc2 := 12) S gf_X5_58 7 rfl rfl dX5_isAtDoor_9 rfl ?_
  refine v_iload_n (pc2 := 13) S 1 dX5_isAtDoor_12 rfl rfl rfl ?_
  obtain ⟨h1, hw⟩ := hw
  refine v_iald (pc2 := 14) S 8 rfl h1 dX5_isAtDoor_13 rfl ?_
  refine v_callV (pc2 := 17) (As := [.int i1, .int (v0.2.1.1 i0.toNatClampNeg)]) (rest := []) S (c_X3_joins l G a0.2.1 v0.1 i1 (v0.2.1.1 i0.toNatClampNeg) _ hw) mf_X3_joins u_271 u_272 u_273 0 3 rfl rfl rfl rfl ⟨rfl, rfl⟩ ⟨Nat.le_of_ble_eq_true rfl, Nat.le_of_ble_eq_true rfl⟩ ⟨Nat.le_of_ble_eq_true rfl, Nat.le_of_ble_eq_true rfl⟩ (Nat.le_of_ble_eq_true rfl) dX5_isAtDoor_14 (frM ([(a0.1, .inr (5, [.ref a0.2.1.1, .ref a0.2.2.1.1, .ref a0.2.2.2.1, .int v0.2.2.2]))]) (wLoom G a0.2.1 v0.1.1 v0.1.2.1 v0.1.2.2.1 v0.1.2.2.2.1 v0.1.2.2.2.2.1 v0.1.2.2.2.2.2) ((wGu G a0.2.2.1 v0.2.1.1 v0.2.1.2.1 v0.2.1.2.2) ++ (wAc G a0.2.2.2 v0.2.2.1.1 v0.2.2.1.2.1 v0.2.2.1.2.2.1 v0.2.2.1.2.2.2.1 v0.2.2.1.2.2.2.2.1 v0.2.2.1.2.2.2.2.2.1 v0.2.2.1.2.2.2.2.2.2))) rfl (pb (fun r2 u3 br2 hw => ?_))
  refine v_to (wSt G a0 v0.1 v0.2.1 v0.2.2.1 v0.2.2.2) 17 [(0, .ref a0.1), (1, .int i0), (2, .int i1)] _ [.int r2] rfl rfl rfl rfl ?_
  exact v_zret S br2 ⟨r2, (), rfl, br2, rfl, hw⟩ dX5_isAtDoor_17
set_option maxHeartbeats 4000000 in
set_option maxRecDepth 100000 in
theorem c_X5_reasonNotToOpenAsGuest (l : Launch) (G : GG) (a0 : StA) (v0 : StV) (i0 : Int32) (i1 : Int32) (Q : Int32 → Prop) (hw : wp_X5_reasonNotToOpenAsGuest v0 i0 i1 Q) : Con l G yX5_reasonNotToOpenAsGuest cX5_reasonNotToOpenAsGuest 3 (some .int) { frames := 3, cells := 0, slots := 0, locals := 65 } [.ref a0.1, .int i0, .int i1] (wSt G a0 v0.1 v0.2.1 v0.2.2.1 v0.2.2.2) (PI (fun _ : Unit => wSt G a0 v0.1 v0.2.1 v0.2.2.1 v0.2.2.2) (fun r _ => Q r)) 0 0 := by
  refine con_of RX5 rfl (by decide) [(0, .ref a0.1), (1, .int i0), (2, .int i1)] rfl (Nat.le_of_ble_eq_true rfl) ?_
  intro p e s m args below meth c S hname
  refine v_aload_n (pc2 := 1) S 0 dX5_reasonNotToOpenAsGuest_0 rfl rfl rfl ?_
  refine v_iload_n (pc2 := 2) S 1 dX5_reasonNotToOpenAsGuest_1 rfl rfl rfl ?_
  refine v_iload_n (pc2 := 3) S 2 dX5_reasonNotToOpenAsGuest_2 rfl rfl rfl ?_
  refine v_callV (pc2 := 6) (As := [.int i0, .int i1]) (rest := []) S (c_X5_isAtDoor l G a0 v0 i0 i1 _ hw) mf_X5_isAtDoor u_267 u_269 u_1 0 5 rfl rfl rfl rfl ⟨rfl, rfl⟩ ⟨Nat.le_of_ble_eq_true rfl, Nat.le_of_ble_eq_true rfl⟩ ⟨Nat.le_of_ble_eq_true rfl, Nat.le_of_ble_eq_true rfl⟩ (Nat.le_of_ble_eq_true rfl) dX5_reasonNotToOpenAsGuest_3 (frW _) rfl (pb (fun r1 u2 br1 hw => ?_))
  refine v_to (wSt G a0 v0.1 v0.2.1 v0.2.2.1 v0.2.2.2) 6 [(0, .ref a0.1), (1, .int i0), (2, .int i1)] _ [.int r1] rfl rfl rfl rfl ?_
  refine v_if_ne (pc2 := 9) (tgt := 11) S dX5_reasonNotToOpenAsGuest_6 (by decide) rfl (fun c3 => ?_) (fun c3 => ?_)
  · have hw := hw.1 c3
    refine v_aload_n (pc2 := 12) S 0 dX5_reasonNotToOpenAsGuest_11 rfl rfl rfl ?_
    refine v_get (v := .ref a0.2.2.1.1) (pc2 := 15) S gf_X5_21 0 rfl rfl dX5_reasonNotToOpenAsGuest_12 rfl ?_
    refine v_getN (v := .ref a0.2.2.1.2.2.1) (pc2 := 18) S gf_X5_68 7 rfl rfl dX5_reasonNotToOpenAsGuest_15 rfl ?_
    refine v_iload_n (pc2 := 19) S 1 dX5_reasonNotToOpenAsGuest_18 rfl rfl rfl ?_
    obtain ⟨h4, hw⟩ := hw
    refine v_iald (pc2 := 20) S 9 rfl h4 dX5_reasonNotToOpenAsGuest_19 rfl ?_
    refine v_iload_n (pc2 := 21) S 2 dX5_reasonNotToOpenAsGuest_20 rfl rfl rfl ?_
    refine v_callSN (pc2 := 24) (As := [.int (v0.2.1.2.1 i0.toNatClampNeg), .int i1]) (rest := []) S (c_X8_has l G (v0.2.1.2.1 i0.toNatClampNeg) i1 _ hw) mf_X8_has u_275 u_276 rfl rfl ⟨rfl, rfl⟩ ⟨Nat.le_of_ble_eq_true rfl, Nat.le_of_ble_eq_true rfl⟩ ⟨Nat.le_of_ble_eq_true rfl, Nat.le_of_ble_eq_true rfl⟩ (Nat.le_of_ble_eq_true rfl) dX5_reasonNotToOpenAsGuest_21 (frM [] [] _) rfl (pb (fun r5 u6 br5 hw => ?_))
    refine v_to (wSt G a0 v0.1 v0.2.1 v0.2.2.1 v0.2.2.2) 24 [(0, .ref a0.1), (1, .int i0), (2, .int i1)] _ [.int r5] rfl rfl rfl rfl ?_
    refine v_if_eq (pc2 := 27) (tgt := 35) S dX5_reasonNotToOpenAsGuest_24 (by decide) rfl (fun c7 => ?_) (fun c7 => ?_)
    · have hw := hw.1 c7
      refine v_bipush (v := 6) (pc2 := 37) S dX5_reasonNotToOpenAsGuest_35 (by decide) rfl ?_
      exact v_iret S ⟨(6 : Int32), (), rfl, rfl, hw⟩ dX5_reasonNotToOpenAsGuest_37
    · have hw := hw.2 c7
      refine v_aload_n (pc2 := 28) S 0 dX5_reasonNotToOpenAsGuest_27 rfl rfl rfl ?_
      refine v_iload_n (pc2 := 29) S 2 dX5_reasonNotToOpenAsGuest_28 rfl rfl rfl ?_
      refine v_callV (pc2 := 32) (As := [.int i1]) (rest := []) S (c_X5_reasonNotToOpen l G a0 v0 i1 _ hw) mf_X5_reasonNotToOpen u_278 u_279 u_280 0 5 rfl rfl rfl rfl ⟨rfl, rfl⟩ ⟨Nat.le_of_ble_eq_true rfl, Nat.le_of_ble_eq_true rfl⟩ ⟨Nat.le_of_ble_eq_true rfl, Nat.le_of_ble_eq_true rfl⟩ (Nat.le_of_ble_eq_true rfl) dX5_reasonNotToOpenAsGuest_29 (frW _) rfl (pi (fun r8 u9 hw => ?_))
      refine v_to (wSt G a0 v0.1 v0.2.1 v0.2.2.1 v0.2.2.2) 32 [(0, .ref a0.1), (1, .int i0), (2, .int i1)] _ [.int r8] rfl rfl rfl rfl ?_
      refine v_goto (tgt := 37) S dX5_reasonNotToOpenAsGuest_32 (by decide) ?_
      exact v_iret S ⟨r8, (), rfl, rfl, hw⟩ dX5_reasonNotToOpenAsGuest_37
  · have hw := hw.2 c3
    refine v_iconst (v := 5) (pc2 := 10) S dX5_reasonNotToOpenAsGuest_9 (by decide) rfl ?_
    exact v_iret S ⟨(5 : Int32), (), rfl, rfl, hw⟩ dX5_reasonNotToOpenAsGuest_10
set_option maxHeartbeats 4000000 in
set_option maxRecDepth 100000 in
theorem c_X5_reasonNotToUse (l : Launch) (G : GG) (a0 : StA) (v0 : StV) (i0 : Int32) (i1 : Int32) (Q : Int32 → Prop) (hw : wp_X5_reasonNotToUse v0 i0 i1 Q) : Con l G yX5_reasonNotToUse cX5_reasonNotToUse 3 (some .int) { frames := 3, cells := 0, slots := 0, locals := 63 } [.ref a0.1, .int i0, .int i1] (wSt G a0 v0.1 v0.2.1 v0.2.2.1 v0.2.2.2) (PI (fun _ : Unit => wSt G a0 v0.1 v0.2.1 v0.2.2.1 v0.2.2.2) (fun r _ => Q r)) 0 0 := by
  refine con_of RX5 rfl (by decide) [(0, .ref a0.1), (1, .int i0), (2, .int i1)] rfl (Nat.le_of_ble_eq_true rfl) ?_
  intro p e s m args below meth c S hname
  refine v_aload_n (pc2 := 1) S 0 dX5_reasonNotToUse_0 rfl rfl rfl ?_
  refine v_iload_n (pc2 := 2) S 1 dX5_reasonNotToUse_1 rfl rfl rfl ?_
  refine v_iload_n (pc2 := 3) S 2 dX5_reasonNotToUse_2 rfl rfl rfl ?_
  refine v_callV (pc2 := 6) (As := [.int i0, .int i1]) (rest := []) S (c_X5_isAtDoor l G a0 v0 i0 i1 _ hw) mf_X5_isAtDoor u_267 u_269 u_1 0 5 rfl rfl rfl rfl ⟨rfl, rfl⟩ ⟨Nat.le_of_ble_eq_true rfl, Nat.le_of_ble_eq_true rfl⟩ ⟨Nat.le_of_ble_eq_true rfl, Nat.le_of_ble_eq_true rfl⟩ (Nat.le_of_ble_eq_true rfl) dX5_reasonNotToUse_3 (frW _) rfl (pb (fun r1 u2 br1 hw => ?_))
  refine v_to (wSt G a0 v0.1 v0.2.1 v0.2.2.1 v0.2.2.2) 6 [(0, .ref a0.1), (1, .int i0), (2, .int i1)] _ [.int r1] rfl rfl rfl rfl ?_
  refine v_if_eq (pc2 := 9) (tgt := 17) S dX5_reasonNotToUse_6 (by decide) rfl (fun c3 => ?_) (fun c3 => ?_)
  · have hw := hw.1 c3
    refine v_iconst (v := 5) (pc2 := 18) S dX5_reasonNotToUse_17 (by decide) rfl ?_
    exact v_iret S ⟨(5 : Int32), (), rfl, rfl, hw⟩ dX5_reasonNotToUse_18
  · have hw := hw.2 c3
    refine v_aload_n (pc2 := 10) S 0 dX5_reasonNotToUse_9 rfl rfl rfl ?_
    refine v_iload_n (pc2 := 11) S 2 dX5_reasonNotToUse_10 rfl rfl rfl ?_
    refine v_callV (pc2 := 14) (As := [.int i1]) (rest := []) S (c_X5_reasonNotToShut l G a0 v0 i1 _ hw) mf_X5_reasonNotToShut u_580 u_582 u_12 0 5 rfl rfl rfl rfl ⟨rfl, rfl⟩ ⟨Nat.le_of_ble_eq_true rfl, Nat.le_of_ble_eq_true rfl⟩ ⟨Nat.le_of_ble_eq_true rfl, Nat.le_of_ble_eq_true rfl⟩ (Nat.le_of_ble_eq_true rfl) dX5_reasonNotToUse_11 (frW _) rfl (pi (fun r4 u5 hw => ?_))
    refine v_to (wSt G a0 v0.1 v0.2.1 v0.2.2.1 v0.2.2.2) 14 [(0, .ref a0.1), (1, .int i0), (2, .int i1)] _ [.int r4] rfl rfl rfl rfl ?_
    refine v_goto (tgt := 18) S dX5_reasonNotToUse_14 (by decide) ?_
    exact v_iret S ⟨r4, (), rfl, rfl, hw⟩ dX5_reasonNotToUse_18
set_option maxHeartbeats 4000000 in
set_option maxRecDepth 100000 in
theorem c_X5_howManyCouldOpen (l : Launch) (G : GG) (a0 : StA) (v0 : StV) (i0 : Int32) (Q : Int32 → Prop) (hw : wp_X5_howManyCouldOpen v0 i0 Q) : Con l G yX5_howManyCouldOpen cX5_howManyCouldOpen 4 (some .int) { frames := 4, cells := 0, slots := 0, locals := 87 } [.ref a0.1, .int i0] (wSt G a0 v0.1 v0.2.1 v0.2.2.1 v0.2.2.2) (PI (fun _ : Unit => wSt G a0 v0.1 v0.2.1 v0.2.2.1 v0.2.2.2) (fun r _ => Q r)) 0 0 := by
  refine con_of RX5 rfl (by decide) [(0, .ref a0.1), (1, .int i0)] rfl (Nat.le_of_ble_eq_true rfl) ?_
  intro p e s m args below meth c S hname
  have L4 : ∀ (x1 : Int32) (kk : Nat) (x2 : Int32) (x3 : Int32), wp_X5_howManyCouldOpen_L4 v0 x1 Q kk x2 x3 → V p l e { frames := 4, cells := 0, slots := 0, locals := 87 } s m args below meth c G (va_A (wSt G a0 v0.1 v0.2.1 v0.2.2.1 v0.2.2.2) s.heap.size) 4 0 0 (MQ below (EQ G (wSt G a0 v0.1 v0.2.1 v0.2.2.1 v0.2.2.2) s.heap.size (PI (fun _ : Unit => wSt G a0 v0.1 v0.2.1 v0.2.2.1 v0.2.2.2) (fun r _ => Q r))) args s 0 0 (va_A (wSt G a0 v0.1 v0.2.1 v0.2.2.1 v0.2.2.2) s.heap.size)) (wSt G a0 v0.1 v0.2.1 v0.2.2.1 v0.2.2.2) 4 [(0, .ref a0.1), (1, .int x1), (2, .int x2), (3, .int x3)] [] := by
    intro x1 kk
    induction kk with
    | zero => intro x2 x3 hw; exact hw.elim
    | succ n ih =>
      intro x2 x3 hw
      refine v_iload_n (pc2 := 5) S 3 dX5_howManyCouldOpen_4 rfl rfl rfl ?_
      refine v_bipush (v := 10) (pc2 := 7) S dX5_howManyCouldOpen_5 (by decide) rfl ?_
      refine v_icmp_ge (pc2 := 10) (tgt := 28) S dX5_howManyCouldOpen_7 (by decide) rfl (fun c1 => ?_) (fun c1 => ?_)
      · have hw := hw.1 c1
        refine v_iload_n (pc2 := 29) S 2 dX5_howManyCouldOpen_28 rfl rfl rfl ?_
        exact v_iret S ⟨x2, (), rfl, rfl, hw⟩ dX5_howManyCouldOpen_29
      · have hw := hw.2 c1
        refine v_aload_n (pc2 := 11) S 0 dX5_howManyCouldOpen_10 rfl rfl rfl ?_
        refine v_iload_n (pc2 := 12) S 1 dX5_howManyCouldOpen_11 rfl rfl rfl ?_
        refine v_iload_n (pc2 := 13) S 3 dX5_howManyCouldOpen_12 rfl rfl rfl ?_
        refine v_callV (pc2 := 16) (As := [.int x1, .int x3]) (rest := []) S (c_X5_reasonNotToOpenAsGuest l G a0 v0 x1 x3 _ hw) mf_X5_reasonNotToOpenAsGuest u_263 u_265 u_0 0 5 rfl rfl rfl rfl ⟨rfl, rfl⟩ ⟨Nat.le_of_ble_eq_true rfl, Nat.le_of_ble_eq_true rfl⟩ ⟨Nat.le_of_ble_eq_true rfl, Nat.le_of_ble_eq_true rfl⟩ (Nat.le_of_ble_eq_true rfl) dX5_howManyCouldOpen_13 (frW _) rfl (pi (fun r2 u3 hw => ?_))
        refine v_to (wSt G a0 v0.1 v0.2.1 v0.2.2.1 v0.2.2.2) 16 [(0, .ref a0.1), (1, .int x1), (2, .int x2), (3, .int x3)] _ [.int r2] rfl rfl rfl rfl ?_
        refine v_if_ne (pc2 := 19) (tgt := 22) S dX5_howManyCouldOpen_16 (by decide) rfl (fun c4 => ?_) (fun c4 => ?_)
        · have hw := hw.1 c4
          obtain ⟨z5, ez5⟩ : ∃ y : Int32, y = x3 + (1 : Int32) := ⟨_, rfl⟩
          have hw := hw z5 ez5
          refine v_iinc (v := z5) (lv2 := [(0, .ref a0.1), (1, .int x1), (2, .int x2), (3, .int z5)]) (pc2 := 25) S 3 dX5_howManyCouldOpen_22 rfl (by rw [ez5]; rfl) (by decide) [1, 2, 3, 0] rfl rfl ?_
          refine v_goto (tgt := 4) S dX5_howManyCouldOpen_25 (by decide) ?_
          exact ih x2 z5 hw
        · have hw := hw.2 c4
          obtain ⟨z6, ez6⟩ : ∃ y : Int32, y = x2 + (1 : Int32) := ⟨_, rfl⟩
          have hw := hw z6 ez6
          refine v_iinc (v := z6) (lv2 := [(0, .ref a0.1), (1, .int x1), (2, .int z6), (3, .int x3)]) (pc2 := 22) S 2 dX5_howManyCouldOpen_19 rfl (by rw [ez6]; rfl) (by decide) [1, 2, 0, 3] rfl rfl ?_
          obtain ⟨z7, ez7⟩ : ∃ y : Int32, y = x3 + (1 : Int32) := ⟨_, rfl⟩
          have hw := hw z7 ez7
          refine v_iinc (v := z7) (lv2 := [(0, .ref a0.1), (1, .int x1), (2, .int z6), (3, .int z7)]) (pc2 := 25) S 3 dX5_howManyCouldOpen_22 rfl (by rw [ez7]; rfl) (by decide) [1, 2, 3, 0] rfl rfl ?_
          refine v_goto (tgt := 4) S dX5_howManyCouldOpen_25 (by decide) ?_
          exact ih z6 z7 hw
  refine v_iconst (v := 0) (pc2 := 1) S dX5_howManyCouldOpen_0 (by decide) rfl ?_
  refine v_istore_n (lv2 := [(0, .ref a0.1), (1, .int i0), (2, .int (0 : Int32))]) (pc2 := 2) S dX5_howManyCouldOpen_1 rfl (by decide) [1, 2, 0] rfl rfl ?_
  refine v_iconst (v := 0) (pc2 := 3) S dX5_howManyCouldOpen_2 (by decide) rfl ?_
  refine v_istore_n (lv2 := [(0, .ref a0.1), (1, .int i0), (2, .int (0 : Int32)), (3, .int (0 : Int32))]) (pc2 := 4) S dX5_howManyCouldOpen_3 rfl (by decide) [1, 2, 3, 0] rfl rfl ?_
  obtain ⟨kk, hw⟩ := hw
  exact L4 i0 kk (0 : Int32) (0 : Int32) hw
set_option maxHeartbeats 4000000 in
set_option maxRecDepth 100000 in
theorem c_X5_opensUnless (l : Launch) (G : GG) (a0 : StA) (v0 : StV) (i0 : Int32) (i1 : Int32) (Q : Int32 → StV → Prop) (hw : wp_X5_opensUnless v0 i0 i1 Q) : Con l G yX5_opensUnless cX5_opensUnless 7 (some .int) { frames := 3, cells := 0, slots := 0, locals := 69 } [.ref a0.1, .int i0, .int i1] (wSt G a0 v0.1 v0.2.1 v0.2.2.1 v0.2.2.2) (PI (fun u : StV => wSt G a0 u.1 u.2.1 u.2.2.1 u.2.2.2) Q) 0 0 := by
  refine con_of RX5 rfl (by decide) [(0, .ref a0.1), (1, .int i0), (2, .int i1)] rfl (Nat.le_of_ble_eq_true rfl) ?_
  intro p e s m args below meth c S hname
  refine v_iload_n (pc2 := 1) S 1 dX5_opensUnless_0 rfl rfl rfl ?_
  refine v_if_eq (pc2 := 4) (tgt := 13) S dX5_opensUnless_1 (by decide) rfl (fun c1 => ?_) (fun c1 => ?_)
  · have hw := hw.1 c1
    refine v_aload_n (pc2 := 14) S 0 dX5_opensUnless_13 rfl rfl rfl ?_
    refine v_get (v := .ref a0.2.1.1) (pc2 := 17) S gf_X5_12 0 rfl rfl dX5_opensUnless_14 rfl ?_
    refine v_aload_n (pc2 := 18) S 0 dX5_opensUnless_17 rfl rfl rfl ?_
    refine v_get (v := .int v0.2.2.2) (pc2 := 21) S gf_X5_32 0 rfl rfl dX5_opensUnless_18 rfl ?_
    refine v_iload_n (pc2 := 22) S 2 dX5_opensUnless_21 rfl rfl rfl ?_
    refine v_callV (pc2 := 25) (As := [.int v0.2.2.2, .int i1]) (rest := []) S (c_X3_afterCords l G a0.2.1 v0.1 v0.2.2.2 i1 _ hw) mf_X3_afterCords u_559 u_363 u_364 0 3 rfl rfl rfl rfl ⟨rfl, rfl⟩ ⟨Nat.le_of_ble_eq_true rfl, Nat.le_of_ble_eq_true rfl⟩ ⟨Nat.le_of_ble_eq_true rfl, Nat.le_of_ble_eq_true rfl⟩ (Nat.le_of_ble_eq_true rfl) dX5_opensUnless_22 (frM ([(a0.1, .inr (5, [.ref a0.2.1.1, .ref a0.2.2.1.1, .ref a0.2.2.2.1, .int v0.2.2.2]))]) (wLoom G a0.2.1 v0.1.1 v0.1.2.1 v0.1.2.2.1 v0.1.2.2.2.1 v0.1.2.2.2.2.1 v0.1.2.2.2.2.2) ((wGu G a0.2.2.1 v0.2.1.1 v0.2.1.2.1 v0.2.1.2.2) ++ (wAc G a0.2.2.2 v0.2.2.1.1 v0.2.2.1.2.1 v0.2.2.1.2.2.1 v0.2.2.1.2.2.2.1 v0.2.2.1.2.2.2.2.1 v0.2.2.1.2.2.2.2.2.1 v0.2.2.1.2.2.2.2.2.2))) rfl (pi (fun r2 u3 hw => ?_))
    refine v_to (wSt G a0 v0.1 v0.2.1 v0.2.2.1 v0.2.2.2) 25 [(0, .ref a0.1), (1, .int i0), (2, .int i1)] _ [.int r2] rfl rfl rfl rfl ?_
    refine v_istore_n (lv2 := [(0, .ref a0.1), (1, .int i0), (2, .int i1), (3, .int r2)]) (pc2 := 26) S dX5_opensUnless_25 rfl (by decide) [1, 2, 3, 0] rfl rfl ?_
    refine v_aload_n (pc2 := 27) S 0 dX5_opensUnless_26 rfl rfl rfl ?_
    refine v_get (v := .ref a0.2.1.1) (pc2 := 30) S gf_X5_12 0 rfl rfl dX5_opensUnless_27 rfl ?_
    refine v_iload_n (pc2 := 31) S 3 dX5_opensUnless_30 rfl rfl rfl ?_
    refine v_iload_n (pc2 := 32) S 2 dX5_opensUnless_31 rfl rfl rfl ?_
    refine v_callV (pc2 := 35) (As := [.int r2, .int i1]) (rest := []) S (c_X3_afterDrafts l G a0.2.1 v0.1 r2 i1 _ hw) mf_X3_afterDrafts u_560 u_367 u_368 0 3 rfl rfl rfl rfl ⟨rfl, rfl⟩ ⟨Nat.le_of_ble_eq_true rfl, Nat.le_of_ble_eq_true rfl⟩ ⟨Nat.le_of_ble_eq_true rfl, Nat.le_of_ble_eq_true rfl⟩ (Nat.le_of_ble_eq_true rfl) dX5_opensUnless_32 (frM ([(a0.1, .inr (5, [.ref a0.2.1.1, .ref a0.2.2.1.1, .ref a0.2.2.2.1, .int v0.2.2.2]))]) (wLoom G a0.2.1 v0.1.1 v0.1.2.1 v0.1.2.2.1 v0.1.2.2.2.1 v0.1.2.2.2.2.1 v0.1.2.2.2.2.2) ((wGu G a0.2.2.1 v0.2.1.1 v0.2.1.2.1 v0.2.1.2.2) ++ (wAc G a0.2.2.2 v0.2.2.1.1 v0.2.2.1.2.1 v0.2.2.1.2.2.1 v0.2.2.1.2.2.2.1 v0.2.2.1.2.2.2.2.1 v0.2.2.1.2.2.2.2.2.1 v0.2.2.1.2.2.2.2.2.2))) rfl (pi (fun r4 u5 hw => ?_))
    refine v_to (wSt G a0 v0.1 v0.2.1 v0.2.2.1 v0.2.2.2) 35 [(0, .ref a0.1), (1, .int i0), (2, .int i1), (3, .int r2)] _ [.int r4] rfl rfl rfl rfl ?_
    refine v_istore (lv2 := [(0, .ref a0.1), (1, .int i0), (2, .int i1), (3, .int r2), (4, .int r4)]) (pc2 := 37) S dX5_opensUnless_35 (by decide) [1, 2, 3, 4, 0] rfl rfl ?_
    refine v_aload_n (pc2 := 38) S 0 dX5_opensUnless_37 rfl rfl rfl ?_
    refine v_get (v := .int v0.2.2.2) (pc2 := 41) S gf_X5_32 0 rfl rfl dX5_opensUnless_38 rfl ?_
    refine v_iload_n (pc2 := 42) S 3 dX5_opensUnless_41 rfl rfl rfl ?_
    refine v_iconst (v := -1) (pc2 := 43) S dX5_opensUnless_42 (by decide) rfl ?_
    refine v_ixor (pc2 := 44) S dX5_opensUnless_43 rfl ?_
    refine v_iand (pc2 := 45) S dX5_opensUnless_44 rfl ?_
    refine v_nm (fun z6 ez6 => ?_)
    have hw := hw z6 ez6
    refine v_istore (lv2 := [(0, .ref a0.1), (1, .int i0), (2, .int i1), (3, .int r2), (4, .int r4), (5, .int z6)]) (pc2 := 47) S dX5_opensUnless_45 (by decide) [1, 2, 3, 4, 5, 0] rfl rfl ?_
    refine v_iload_n (pc2 := 48) S 3 dX5_opensUnless_47 rfl rfl rfl ?_
    refine v_iload (pc2 := 50) S 4 dX5_opensUnless_48 rfl rfl ?_
    refine v_iconst (v := -1) (pc2 := 51) S dX5_opensUnless_50 (by decide) rfl ?_
    refine v_ixor (pc2 := 52) S dX5_opensUnless_51 rfl ?_
    refine v_iand (pc2 := 53) S dX5_opensUnless_52 rfl ?_
    refine v_nm (fun z7 ez7 => ?_)
    have hw := hw z7 ez7
    refine v_istore (lv2 := [(0, .ref a0.1), (1, .int i0), (2, .int i1), (3, .int r2), (4, .int r4), (5, .int z6), (6, .int z7)]) (pc2 := 55) S dX5_opensUnless_53 (by decide) [1, 2, 3, 4, 5, 6, 0] rfl rfl ?_
    refine v_aload_n (pc2 := 56) S 0 dX5_opensUnless_55 rfl rfl rfl ?_
    refine v_get (v := .ref a0.2.2.2.1) (pc2 := 59) S gf_X5_28 0 rfl rfl dX5_opensUnless_56 rfl ?_
    refine v_iload_n (pc2 := 60) S 2 dX5_opensUnless_59 rfl rfl rfl ?_
    refine v_callV (pc2 := 63) (As := [.int i1]) (rest := []) S (c_X0_noteOpened l G a0.2.2.2 v0.2.2.1 i1 _ hw) mf_X0_noteOpened u_561 u_562 u_563 0 0 rfl rfl rfl rfl ⟨rfl, rfl⟩ ⟨Nat.le_of_ble_eq_true rfl, Nat.le_of_ble_eq_true rfl⟩ ⟨Nat.le_of_ble_eq_true rfl, Nat.le_of_ble_eq_true rfl⟩ (Nat.le_of_ble_eq_true rfl) dX5_opensUnless_60 (frM (([(a0.1, .inr (5, [.ref a0.2.1.1, .ref a0.2.2.1.1, .ref a0.2.2.2.1, .int v0.2.2.2]))] : va_W) ++ ((wLoom G a0.2.1 v0.1.1 v0.1.2.1 v0.1.2.2.1 v0.1.2.2.2.1 v0.1.2.2.2.2.1 v0.1.2.2.2.2.2) ++ (wGu G a0.2.2.1 v0.2.1.1 v0.2.1.2.1 v0.2.1.2.2))) (wAc G a0.2.2.2 v0.2.2.1.1 v0.2.2.1.2.1 v0.2.2.1.2.2.1 v0.2.2.1.2.2.2.1 v0.2.2.1.2.2.2.2.1 v0.2.2.1.2.2.2.2.2.1 v0.2.2.1.2.2.2.2.2.2) ([])) rfl (pv (fun u9 hw => ?_))
    refine v_to (wSt G a0 v0.1 v0.2.1 u9 v0.2.2.2) 63 [(0, .ref a0.1), (1, .int i0), (2, .int i1), (3, .int r2), (4, .int r4), (5, .int z6), (6, .int z7)] _ [] rfl rfl rfl rfl ?_
    refine v_aload_n (pc2 := 64) S 0 dX5_opensUnless_63 rfl rfl rfl ?_
    refine v_get (v := .ref a0.2.2.2.1) (pc2 := 67) S gf_X5_28 0 rfl rfl dX5_opensUnless_64 rfl ?_
    refine v_iload (pc2 := 69) S 5 dX5_opensUnless_67 rfl rfl ?_
    refine v_iload (pc2 := 71) S 6 dX5_opensUnless_69 rfl rfl ?_
    refine v_callV (pc2 := 74) (As := [.int z6, .int z7]) (rest := []) S (c_X0_noteShutByOpening l G a0.2.2.2 u9 z6 z7 _ hw) mf_X0_noteShutByOpening u_565 u_566 u_567 0 0 rfl rfl rfl rfl ⟨rfl, rfl⟩ ⟨Nat.le_of_ble_eq_true rfl, Nat.le_of_ble_eq_true rfl⟩ ⟨Nat.le_of_ble_eq_true rfl, Nat.le_of_ble_eq_true rfl⟩ (Nat.le_of_ble_eq_true rfl) dX5_opensUnless_71 (frM (([(a0.1, .inr (5, [.ref a0.2.1.1, .ref a0.2.2.1.1, .ref a0.2.2.2.1, .int v0.2.2.2]))] : va_W) ++ ((wLoom G a0.2.1 v0.1.1 v0.1.2.1 v0.1.2.2.1 v0.1.2.2.2.1 v0.1.2.2.2.2.1 v0.1.2.2.2.2.2) ++ (wGu G a0.2.2.1 v0.2.1.1 v0.2.1.2.1 v0.2.1.2.2))) (wAc G a0.2.2.2 u9.1 u9.2.1 u9.2.2.1 u9.2.2.2.1 u9.2.2.2.2.1 u9.2.2.2.2.2.1 u9.2.2.2.2.2.2) ([])) rfl (pv (fun u11 hw => ?_))
    refine v_to (wSt G a0 v0.1 v0.2.1 u11 v0.2.2.2) 74 [(0, .ref a0.1), (1, .int i0), (2, .int i1), (3, .int r2), (4, .int r4), (5, .int z6), (6, .int z7)] _ [] rfl rfl rfl rfl ?_
    refine v_aload_n (pc2 := 75) S 0 dX5_opensUnless_74 rfl rfl rfl ?_
    refine v_iload (pc2 := 77) S 4 dX5_opensUnless_75 rfl rfl ?_
    refine v_put (ws2 := wSt G a0 v0.1 v0.2.1 u11 r4) (pc2 := 80) S gf_X5_32 pf_X5_3 0 rfl rfl rfl (Nat.le_of_ble_eq_true rfl) rfl dX5_opensUnless_77 rfl ?_
    refine v_bipush (v := 10) (pc2 := 82) S dX5_opensUnless_80 (by decide) rfl ?_
    refine v_iload (pc2 := 84) S 5 dX5_opensUnless_82 rfl rfl ?_
    refine v_iload (pc2 := 86) S 6 dX5_opensUnless_84 rfl rfl ?_
    refine v_ior (pc2 := 87) S dX5_opensUnless_86 rfl ?_
    refine v_callS (pc2 := 90) (As := [.int (z6 ||| z7)]) (rest := [.int (10 : Int32)]) S (c_J6_bitCount_0f7a4 l G (z6 ||| z7) _ hw) mf_J6_bitCount_0f7a4 u_571 u_312 rfl rfl ⟨rfl, rfl⟩ ⟨Nat.le_of_ble_eq_true rfl, Nat.le_of_ble_eq_true rfl⟩ ⟨Nat.le_of_ble_eq_true rfl, Nat.le_of_ble_eq_true rfl⟩ (Nat.le_of_ble_eq_true rfl) dX5_opensUnless_87 (frM [] [] _) rfl (pi (fun r12 u13 hw => ?_))
    refine v_to (wSt G a0 v0.1 v0.2.1 u11 r4) 90 [(0, .ref a0.1), (1, .int i0), (2, .int i1), (3, .int r2), (4, .int r4), (5, .int z6), (6, .int z7)] _ [.int r12, .int (10 : Int32)] rfl rfl rfl rfl ?_
    refine v_iadd (pc2 := 91) S dX5_opensUnless_90 rfl ?_
    exact v_iret S ⟨(10 : Int32) + r12, (v0.1, v0.2.1, u11, r4), rfl, rfl, hw⟩ dX5_opensUnless_91
  · have hw := hw.2 c1
    refine v_aload_n (pc2 := 5) S 0 dX5_opensUnless_4 rfl rfl rfl ?_
    refine v_get (v := .ref a0.2.2.2.1) (pc2 := 8) S gf_X5_28 0 rfl rfl dX5_opensUnless_5 rfl ?_
    refine v_iload_n (pc2 := 9) S 1 dX5_opensUnless_8 rfl rfl rfl ?_
    refine v_callV (pc2 := 12) (As := [.int i0]) (rest := []) S (c_X0_noteRefused l G a0.2.2.2 v0.2.2.1 i0 _ hw) mf_X0_noteRefused u_555 u_556 u_557 0 0 rfl rfl rfl rfl ⟨rfl, rfl⟩ ⟨Nat.le_of_ble_eq_true rfl, Nat.le_of_ble_eq_true rfl⟩ ⟨Nat.le_of_ble_eq_true rfl, Nat.le_of_ble_eq_true rfl⟩ (Nat.le_of_ble_eq_true rfl) dX5_opensUnless_9 (frM (([(a0.1, .inr (5, [.ref a0.2.1.1, .ref a0.2.2.1.1, .ref a0.2.2.2.1, .int v0.2.2.2]))] : va_W) ++ ((wLoom G a0.2.1 v0.1.1 v0.1.2.1 v0.1.2.2.1 v0.1.2.2.2.1 v0.1.2.2.2.2.1 v0.1.2.2.2.2.2) ++ (wGu G a0.2.2.1 v0.2.1.1 v0.2.1.2.1 v0.2.1.2.2))) (wAc G a0.2.2.2 v0.2.2.1.1 v0.2.2.1.2.1 v0.2.2.1.2.2.1 v0.2.2.1.2.2.2.1 v0.2.2.1.2.2.2.2.1 v0.2.2.1.2.2.2.2.2.1 v0.2.2.1.2.2.2.2.2.2) ([])) rfl (pi (fun r14 u15 hw => ?_))
    refine v_to (wSt G a0 v0.1 v0.2.1 u15 v0.2.2.2) 12 [(0, .ref a0.1), (1, .int i0), (2, .int i1)] _ [.int r14] rfl rfl rfl rfl ?_
    exact v_iret S ⟨r14, (v0.1, v0.2.1, u15, v0.2.2.2), rfl, rfl, hw⟩ dX5_opensUnless_12
set_option maxHeartbeats 4000000 in
set_option maxRecDepth 100000 in
theorem c_X5_servantOpens (l : Launch) (G : GG) (a0 : StA) (v0 : StV) (i0 : Int32) (Q : Int32 → StV → Prop) (hw : wp_X5_servantOpens v0 i0 Q) : Con l G yX5_servantOpens cX5_servantOpens 2 (some .int) { frames := 4, cells := 0, slots := 0, locals := 95 } [.ref a0.1, .int i0] (wSt G a0 v0.1 v0.2.1 v0.2.2.1 v0.2.2.2) (PI (fun u : StV => wSt G a0 u.1 u.2.1 u.2.2.1 u.2.2.2) Q) 0 0 := by
  refine con_of RX5 rfl (by decide) [(0, .ref a0.1), (1, .int i0)] rfl (Nat.le_of_ble_eq_true rfl) ?_
  intro p e s m args below meth c S hname
  refine v_aload_n (pc2 := 1) S 0 dX5_servantOpens_0 rfl rfl rfl ?_
  refine v_aload_n (pc2 := 2) S 0 dX5_servantOpens_1 rfl rfl rfl ?_
  refine v_iload_n (pc2 := 3) S 1 dX5_servantOpens_2 rfl rfl rfl ?_
  refine v_callV (pc2 := 6) (As := [.int i0]) (rest := [.ref a0.1]) S (c_X5_reasonNotToOpen l G a0 v0 i0 _ hw) mf_X5_reasonNotToOpen u_278 u_279 u_280 0 5 rfl rfl rfl rfl ⟨rfl, rfl⟩ ⟨Nat.le_of_ble_eq_true rfl, Nat.le_of_ble_eq_true rfl⟩ ⟨Nat.le_of_ble_eq_true rfl, Nat.le_of_ble_eq_true rfl⟩ (Nat.le_of_ble_eq_true rfl) dX5_servantOpens_3 (frW _) rfl (pi (fun r1 u2 hw => ?_))
  refine v_to (wSt G a0 v0.1 v0.2.1 v0.2.2.1 v0.2.2.2) 6 [(0, .ref a0.1), (1, .int i0)] _ [.int r1, .ref a0.1] rfl rfl rfl rfl ?_
  refine v_iload_n (pc2 := 7) S 1 dX5_servantOpens_6 rfl rfl rfl ?_
  refine v_callV (pc2 := 10) (As := [.int r1, .int i0]) (rest := []) S (c_X5_opensUnless l G a0 v0 r1 i0 _ hw) mf_X5_opensUnless u_551 u_553 u_11 0 5 rfl rfl rfl rfl ⟨rfl, rfl⟩ ⟨Nat.le_of_ble_eq_true rfl, Nat.le_of_ble_eq_true rfl⟩ ⟨Nat.le_of_ble_eq_true rfl, Nat.le_of_ble_eq_true rfl⟩ (Nat.le_of_ble_eq_true rfl) dX5_servantOpens_7 (frW _) rfl (pi (fun r3 u4 hw => ?_))
  refine v_to (wSt G a0 u4.1 u4.2.1 u4.2.2.1 u4.2.2.2) 10 [(0, .ref a0.1), (1, .int i0)] _ [.int r3] rfl rfl rfl rfl ?_
  exact v_iret S ⟨r3, u4, rfl, rfl, hw⟩ dX5_servantOpens_10
set_option maxHeartbeats 4000000 in
set_option maxRecDepth 100000 in
theorem c_X5_shutsUnless (l : Launch) (G : GG) (a0 : StA) (v0 : StV) (i0 : Int32) (i1 : Int32) (Q : Int32 → StV → Prop) (hw : wp_X5_shutsUnless v0 i0 i1 Q) : Con l G yX5_shutsUnless cX5_shutsUnless 3 (some .int) { frames := 1, cells := 0, slots := 0, locals := 21 } [.ref a0.1, .int i0, .int i1] (wSt G a0 v0.1 v0.2.1 v0.2.2.1 v0.2.2.2) (PI (fun u : StV => wSt G a0 u.1 u.2.1 u.2.2.1 u.2.2.2) Q) 0 0 := by
  refine con_of RX5 rfl (by decide) [(0, .ref a0.1), (1, .int i0), (2, .int i1)] rfl (Nat.le_of_ble_eq_true rfl) ?_
  intro p e s m args below meth c S hname
  refine v_iload_n (pc2 := 1) S 1 dX5_shutsUnless_0 rfl rfl rfl ?_
  refine v_if_eq (pc2 := 4) (tgt := 13) S dX5_shutsUnless_1 (by decide) rfl (fun c1 => ?_) (fun c1 => ?_)
  · have hw := hw.1 c1
    refine v_aload_n (pc2 := 14) S 0 dX5_shutsUnless_13 rfl rfl rfl ?_
    refine v_get (v := .ref a0.2.2.2.1) (pc2 := 17) S gf_X5_28 0 rfl rfl dX5_shutsUnless_14 rfl ?_
    refine v_iload_n (pc2 := 18) S 2 dX5_shutsUnless_17 rfl rfl rfl ?_
    refine v_callV (pc2 := 21) (As := [.int i1]) (rest := []) S (c_X0_noteShutByHand l G a0.2.2.2 v0.2.2.1 i1 _ hw) mf_X0_noteShutByHand u_588 u_589 u_590 0 0 rfl rfl rfl rfl ⟨rfl, rfl⟩ ⟨Nat.le_of_ble_eq_true rfl, Nat.le_of_ble_eq_true rfl⟩ ⟨Nat.le_of_ble_eq_true rfl, Nat.le_of_ble_eq_true rfl⟩ (Nat.le_of_ble_eq_true rfl) dX5_shutsUnless_18 (frM (([(a0.1, .inr (5, [.ref a0.2.1.1, .ref a0.2.2.1.1, .ref a0.2.2.2.1, .int v0.2.2.2]))] : va_W) ++ ((wLoom G a0.2.1 v0.1.1 v0.1.2.1 v0.1.2.2.1 v0.1.2.2.2.1 v0.1.2.2.2.2.1 v0.1.2.2.2.2.2) ++ (wGu G a0.2.2.1 v0.2.1.1 v0.2.1.2.1 v0.2.1.2.2))) (wAc G a0.2.2.2 v0.2.2.1.1 v0.2.2.1.2.1 v0.2.2.1.2.2.1 v0.2.2.1.2.2.2.1 v0.2.2.1.2.2.2.2.1 v0.2.2.1.2.2.2.2.2.1 v0.2.2.1.2.2.2.2.2.2) ([])) rfl (pv (fun u3 hw => ?_))
    refine v_to (wSt G a0 v0.1 v0.2.1 u3 v0.2.2.2) 21 [(0, .ref a0.1), (1, .int i0), (2, .int i1)] _ [] rfl rfl rfl rfl ?_
    refine v_aload_n (pc2 := 22) S 0 dX5_shutsUnless_21 rfl rfl rfl ?_
    refine v_aload_n (pc2 := 23) S 0 dX5_shutsUnless_22 rfl rfl rfl ?_
    refine v_get (v := .int v0.2.2.2) (pc2 := 26) S gf_X5_32 0 rfl rfl dX5_shutsUnless_23 rfl ?_
    refine v_iload_n (pc2 := 27) S 2 dX5_shutsUnless_26 rfl rfl rfl ?_
    refine v_callSN (pc2 := 30) (As := [.int v0.2.2.2, .int i1]) (rest := [.ref a0.1]) S (c_X8_without l G v0.2.2.2 i1 _ hw) mf_X8_without u_592 u_58 rfl rfl ⟨rfl, rfl⟩ ⟨Nat.le_of_ble_eq_true rfl, Nat.le_of_ble_eq_true rfl⟩ ⟨Nat.le_of_ble_eq_true rfl, Nat.le_of_ble_eq_true rfl⟩ (Nat.le_of_ble_eq_true rfl) dX5_shutsUnless_27 (frM [] [] _) rfl (pi (fun r4 u5 hw => ?_))
    refine v_to (wSt G a0 v0.1 v0.2.1 u3 v0.2.2.2) 30 [(0, .ref a0.1), (1, .int i0), (2, .int i1)] _ [.int r4, .ref a0.1] rfl rfl rfl rfl ?_
    refine v_put (ws2 := wSt G a0 v0.1 v0.2.1 u3 r4) (pc2 := 33) S gf_X5_32 pf_X5_3 0 rfl rfl rfl (Nat.le_of_ble_eq_true rfl) rfl dX5_shutsUnless_30 rfl ?_
    refine v_bipush (v := 10) (pc2 := 35) S dX5_shutsUnless_33 (by decide) rfl ?_
    exact v_iret S ⟨(10 : Int32), (v0.1, v0.2.1, u3, r4), rfl, rfl, hw⟩ dX5_shutsUnless_35
  · have hw := hw.2 c1
    refine v_aload_n (pc2 := 5) S 0 dX5_shutsUnless_4 rfl rfl rfl ?_
    refine v_get (v := .ref a0.2.2.2.1) (pc2 := 8) S gf_X5_28 0 rfl rfl dX5_shutsUnless_5 rfl ?_
    refine v_iload_n (pc2 := 9) S 1 dX5_shutsUnless_8 rfl rfl rfl ?_
    refine v_callV (pc2 := 12) (As := [.int i0]) (rest := []) S (c_X0_noteRefused l G a0.2.2.2 v0.2.2.1 i0 _ hw) mf_X0_noteRefused u_555 u_556 u_557 0 0 rfl rfl rfl rfl ⟨rfl, rfl⟩ ⟨Nat.le_of_ble_eq_true rfl, Nat.le_of_ble_eq_true rfl⟩ ⟨Nat.le_of_ble_eq_true rfl, Nat.le_of_ble_eq_true rfl⟩ (Nat.le_of_ble_eq_true rfl) dX5_shutsUnless_9 (frM (([(a0.1, .inr (5, [.ref a0.2.1.1, .ref a0.2.2.1.1, .ref a0.2.2.2.1, .int v0.2.2.2]))] : va_W) ++ ((wLoom G a0.2.1 v0.1.1 v0.1.2.1 v0.1.2.2.1 v0.1.2.2.2.1 v0.1.2.2.2.2.1 v0.1.2.2.2.2.2) ++ (wGu G a0.2.2.1 v0.2.1.1 v0.2.1.2.1 v0.2.1.2.2))) (wAc G a0.2.2.2 v0.2.2.1.1 v0.2.2.1.2.1 v0.2.2.1.2.2.1 v0.2.2.1.2.2.2.1 v0.2.2.1.2.2.2.2.1 v0.2.2.1.2.2.2.2.2.1 v0.2.2.1.2.2.2.2.2.2) ([])) rfl (pi (fun r6 u7 hw => ?_))
    refine v_to (wSt G a0 v0.1 v0.2.1 u7 v0.2.2.2) 12 [(0, .ref a0.1), (1, .int i0), (2, .int i1)] _ [.int r6] rfl rfl rfl rfl ?_
    exact v_iret S ⟨r6, (v0.1, v0.2.1, u7, v0.2.2.2), rfl, rfl, hw⟩ dX5_shutsUnless_12
set_option maxHeartbeats 4000000 in
set_option maxRecDepth 100000 in
theorem c_X5_servantShuts (l : Launch) (G : GG) (a0 : StA) (v0 : StV) (i0 : Int32) (Q : Int32 → StV → Prop) (hw : wp_X5_servantShuts v0 i0 Q) : Con l G yX5_servantShuts cX5_servantShuts 2 (some .int) { frames := 3, cells := 0, slots := 0, locals := 63 } [.ref a0.1, .int i0] (wSt G a0 v0.1 v0.2.1 v0.2.2.1 v0.2.2.2) (PI (fun u : StV => wSt G a0 u.1 u.2.1 u.2.2.1 u.2.2.2) Q) 0 0 := by
  refine con_of RX5 rfl (by decide) [(0, .ref a0.1), (1, .int i0)] rfl (Nat.le_of_ble_eq_true rfl) ?_
  intro p e s m args below meth c S hname
  refine v_aload_n (pc2 := 1) S 0 dX5_servantShuts_0 rfl rfl rfl ?_
  refine v_aload_n (pc2 := 2) S 0 dX5_servantShuts_1 rfl rfl rfl ?_
  refine v_iload_n (pc2 := 3) S 1 dX5_servantShuts_2 rfl rfl rfl ?_
  refine v_callV (pc2 := 6) (As := [.int i0]) (rest := [.ref a0.1]) S (c_X5_reasonNotToShut l G a0 v0 i0 _ hw) mf_X5_reasonNotToShut u_580 u_582 u_12 0 5 rfl rfl rfl rfl ⟨rfl, rfl⟩ ⟨Nat.le_of_ble_eq_true rfl, Nat.le_of_ble_eq_true rfl⟩ ⟨Nat.le_of_ble_eq_true rfl, Nat.le_of_ble_eq_true rfl⟩ (Nat.le_of_ble_eq_true rfl) dX5_servantShuts_3 (frW _) rfl (pi (fun r1 u2 hw => ?_))
  refine v_to (wSt G a0 v0.1 v0.2.1 v0.2.2.1 v0.2.2.2) 6 [(0, .ref a0.1), (1, .int i0)] _ [.int r1, .ref a0.1] rfl rfl rfl rfl ?_
  refine v_iload_n (pc2 := 7) S 1 dX5_servantShuts_6 rfl rfl rfl ?_
  refine v_callV (pc2 := 10) (As := [.int r1, .int i0]) (rest := []) S (c_X5_shutsUnless l G a0 v0 r1 i0 _ hw) mf_X5_shutsUnless u_584 u_586 u_13 0 5 rfl rfl rfl rfl ⟨rfl, rfl⟩ ⟨Nat.le_of_ble_eq_true rfl, Nat.le_of_ble_eq_true rfl⟩ ⟨Nat.le_of_ble_eq_true rfl, Nat.le_of_ble_eq_true rfl⟩ (Nat.le_of_ble_eq_true rfl) dX5_servantShuts_7 (frW _) rfl (pi (fun r3 u4 hw => ?_))
  refine v_to (wSt G a0 u4.1 u4.2.1 u4.2.2.1 u4.2.2.2) 10 [(0, .ref a0.1), (1, .int i0)] _ [.int r3] rfl rfl rfl rfl ?_
  exact v_iret S ⟨r3, u4, rfl, rfl, hw⟩ dX5_servantShuts_10
set_option maxHeartbeats 4000000 in
set_option maxRecDepth 100000 in
theorem c_X5_opensAsGuest (l : Launch) (G : GG) (a0 : StA) (v0 : StV) (i0 : Int32) (i1 : Int32) (Q : Int32 → StV → Prop) (hw : wp_X5_opensAsGuest v0 i0 i1 Q) : Con l G yX5_opensAsGuest cX5_opensAsGuest 3 (some .int) { frames := 4, cells := 0, slots := 0, locals := 95 } [.ref a0.1, .int i0, .int i1] (wSt G a0 v0.1 v0.2.1 v0.2.2.1 v0.2.2.2) (PI (fun u : StV => wSt G a0 u.1 u.2.1 u.2.2.1 u.2.2.2) Q) 0 0 := by
  refine con_of RX5 rfl (by decide) [(0, .ref a0.1), (1, .int i0), (2, .int i1)] rfl (Nat.le_of_ble_eq_true rfl) ?_
  intro p e s m args below meth c S hname
  refine v_aload_n (pc2 := 1) S 0 dX5_opensAsGuest_0 rfl rfl rfl ?_
  refine v_aload_n (pc2 := 2) S 0 dX5_opensAsGuest_1 rfl rfl rfl ?_
  refine v_iload_n (pc2 := 3) S 1 dX5_opensAsGuest_2 rfl rfl rfl ?_
  refine v_iload_n (pc2 := 4) S 2 dX5_opensAsGuest_3 rfl rfl rfl ?_
  refine v_callV (pc2 := 7) (As := [.int i0, .int i1]) (rest := [.ref a0.1]) S (c_X5_reasonNotToOpenAsGuest l G a0 v0 i0 i1 _ hw) mf_X5_reasonNotToOpenAsGuest u_263 u_265 u_0 0 5 rfl rfl rfl rfl ⟨rfl, rfl⟩ ⟨Nat.le_of_ble_eq_true rfl, Nat.le_of_ble_eq_true rfl⟩ ⟨Nat.le_of_ble_eq_true rfl, Nat.le_of_ble_eq_true rfl⟩ (Nat.le_of_ble_eq_true rfl) dX5_opensAsGuest_4 (frW _) rfl (pi (fun r1 u2 hw => ?_))
  refine v_to (wSt G a0 v0.1 v0.2.1 v0.2.2.1 v0.2.2.2) 7 [(0, .ref a0.1), (1, .int i0), (2, .int i1)] _ [.int r1, .ref a0.1] rfl rfl rfl rfl ?_
  refine v_iload_n (pc2 := 8) S 2 dX5_opensAsGuest_7 rfl rfl rfl ?_
  refine v_callV (pc2 := 11) (As := [.int r1, .int i1]) (rest := []) S (c_X5_opensUnless l G a0 v0 r1 i1 _ hw) mf_X5_opensUnless u_551 u_553 u_11 0 5 rfl rfl rfl rfl ⟨rfl, rfl⟩ ⟨Nat.le_of_ble_eq_true rfl, Nat.le_of_ble_eq_true rfl⟩ ⟨Nat.le_of_ble_eq_true rfl, Nat.le_of_ble_eq_true rfl⟩ (Nat.le_of_ble_eq_true rfl) dX5_opensAsGuest_8 (frW _) rfl (pi (fun r3 u4 hw => ?_))
  refine v_to (wSt G a0 u4.1 u4.2.1 u4.2.2.1 u4.2.2.2) 11 [(0, .ref a0.1), (1, .int i0), (2, .int i1)] _ [.int r3] rfl rfl rfl rfl ?_
  exact v_iret S ⟨r3, u4, rfl, rfl, hw⟩ dX5_opensAsGuest_11
set_option maxHeartbeats 4000000 in
set_option maxRecDepth 100000 in
theorem c_X5_shutsAsGuest (l : Launch) (G : GG) (a0 : StA) (v0 : StV) (i0 : Int32) (i1 : Int32) (Q : Int32 → StV → Prop) (hw : wp_X5_shutsAsGuest v0 i0 i1 Q) : Con l G yX5_shutsAsGuest cX5_shutsAsGuest 3 (some .int) { frames := 4, cells := 0, slots := 0, locals := 85 } [.ref a0.1, .int i0, .int i1] (wSt G a0 v0.1 v0.2.1 v0.2.2.1 v0.2.2.2) (PI (fun u : StV => wSt G a0 u.1 u.2.1 u.2.2.1 u.2.2.2) Q) 0 0 := by
  refine con_of RX5 rfl (by decide) [(0, .ref a0.1), (1, .int i0), (2, .int i1)] rfl (Nat.le_of_ble_eq_true rfl) ?_
  intro p e s m args below meth c S hname
  refine v_aload_n (pc2 := 1) S 0 dX5_shutsAsGuest_0 rfl rfl rfl ?_
  refine v_aload_n (pc2 := 2) S 0 dX5_shutsAsGuest_1 rfl rfl rfl ?_
  refine v_iload_n (pc2 := 3) S 1 dX5_shutsAsGuest_2 rfl rfl rfl ?_
  refine v_iload_n (pc2 := 4) S 2 dX5_shutsAsGuest_3 rfl rfl rfl ?_
  refine v_callV (pc2 := 7) (As := [.int i0, .int i1]) (rest := [.ref a0.1]) S (c_X5_reasonNotToUse l G a0 v0 i0 i1 _ hw) mf_X5_reasonNotToUse u_634 u_636 u_14 0 5 rfl rfl rfl rfl ⟨rfl, rfl⟩ ⟨Nat.le_of_ble_eq_true rfl, Nat.le_of_ble_eq_true rfl⟩ ⟨Nat.le_of_ble_eq_true rfl, Nat.le_of_ble_eq_true rfl⟩ (Nat.le_of_ble_eq_true rfl) dX5_shutsAsGuest_4 (frW _) rfl (pi (fun r1 u2 hw => ?_))
  refine v_to (wSt G a0 v0.1 v0.2.1 v0.2.2.1 v0.2.2.2) 7 [(0, .ref a0.1), (1, .int i0), (2, .int i1)] _ [.int r1, .ref a0.1] rfl rfl rfl rfl ?_
  refine v_iload_n (pc2 := 8) S 2 dX5_shutsAsGuest_7 rfl rfl rfl ?_
  refine v_callV (pc2 := 11) (As := [.int r1, .int i1]) (rest := []) S (c_X5_shutsUnless l G a0 v0 r1 i1 _ hw) mf_X5_shutsUnless u_584 u_586 u_13 0 5 rfl rfl rfl rfl ⟨rfl, rfl⟩ ⟨Nat.le_of_ble_eq_true rfl, Nat.le_of_ble_eq_true rfl⟩ ⟨Nat.le_of_ble_eq_true rfl, Nat.le_of_ble_eq_true rfl⟩ (Nat.le_of_ble_eq_true rfl) dX5_shutsAsGuest_8 (frW _) rfl (pi (fun r3 u4 hw => ?_))
  refine v_to (wSt G a0 u4.1 u4.2.1 u4.2.2.1 u4.2.2.2) 11 [(0, .ref a0.1), (1, .int i0), (2, .int i1)] _ [.int r3] rfl rfl rfl rfl ?_
  exact v_iret S ⟨r3, u4, rfl, rfl, hw⟩ dX5_shutsAsGuest_11
set_option maxHeartbeats 4000000 in
set_option maxRecDepth 100000 in
theorem c_X5_walksThrough (l : Launch) (G : GG) (a0 : StA) (v0 : StV) (i0 : Int32) (i1 : Int32) (Q : Int32 → StV → Prop) (hw : wp_X5_walksThrough v0 i0 i1 Q) : Con l G yX5_walksThrough cX5_walksThrough 4 (some .int) { frames := 4, cells := 0, slots := 0, locals := 85 } [.ref a0.1, .int i0, .int i1] (wSt G a0 v0.1 v0.2.1 v0.2.2.1 v0.2.2.2) (PI (fun u : StV => wSt G a0 u.1 u.2.1 u.2.2.1 u.2.2.2) Q) 0 0 := by
  refine con_of RX5 rfl (by decide) [(0, .ref a0.1), (1, .int i0), (2, .int i1)] rfl (Nat.le_of_ble_eq_true rfl) ?_
  intro p e s m args below meth c S hname
  refine v_aload_n (pc2 := 1) S 0 dX5_walksThrough_0 rfl rfl rfl ?_
  refine v_iload_n (pc2 := 2) S 1 dX5_walksThrough_1 rfl rfl rfl ?_
  refine v_iload_n (pc2 := 3) S 2 dX5_walksThrough_2 rfl rfl rfl ?_
  refine v_callV (pc2 := 6) (As := [.int i0, .int i1]) (rest := []) S (c_X5_reasonNotToUse l G a0 v0 i0 i1 _ hw) mf_X5_reasonNotToUse u_634 u_636 u_14 0 5 rfl rfl rfl rfl ⟨rfl, rfl⟩ ⟨Nat.le_of_ble_eq_true rfl, Nat.le_of_ble_eq_true rfl⟩ ⟨Nat.le_of_ble_eq_true rfl, Nat.le_of_ble_eq_true rfl⟩ (Nat.le_of_ble_eq_true rfl) dX5_walksThrough_3 (frW _) rfl (pi (fun r1 u2 hw => ?_))
  refine v_to (wSt G a0 v0.1 v0.2.1 v0.2.2.1 v0.2.2.2) 6 [(0, .ref a0.1), (1, .int i0), (2, .int i1)] _ [.int r1] rfl rfl rfl rfl ?_
  refine v_istore_n (lv2 := [(0, .ref a0.1), (1, .int i0), (2, .int i1), (3, .int r1)]) (pc2 := 7) S dX5_walksThrough_6 rfl (by decide) [1, 2, 3, 0] rfl rfl ?_
  refine v_iload_n (pc2 := 8) S 3 dX5_walksThrough_7 rfl rfl rfl ?_
  refine v_if_eq (pc2 := 11) (tgt := 20) S dX5_walksThrough_8 (by decide) rfl (fun c3 => ?_) (fun c3 => ?_)
  · have hw := hw.1 c3
    refine v_aload_n (pc2 := 21) S 0 dX5_walksThrough_20 rfl rfl rfl ?_
    refine v_get (v := .ref a0.2.2.1.1) (pc2 := 24) S gf_X5_21 0 rfl rfl dX5_walksThrough_21 rfl ?_
    refine v_getN (v := .ref a0.2.2.1.2.1) (pc2 := 27) S gf_X5_58 7 rfl rfl dX5_walksThrough_24 rfl ?_
    refine v_iload_n (pc2 := 28) S 1 dX5_walksThrough_27 rfl rfl rfl ?_
    refine v_aload_n (pc2 := 29) S 0 dX5_walksThrough_28 rfl rfl rfl ?_
    refine v_get (v := .ref a0.2.1.1) (pc2 := 32) S gf_X5_12 0 rfl rfl dX5_walksThrough_29 rfl ?_
    refine v_iload_n (pc2 := 33) S 2 dX5_walksThrough_32 rfl rfl rfl ?_
    refine v_aload_n (pc2 := 34) S 0 dX5_walksThrough_33 rfl rfl rfl ?_
    refine v_get (v := .ref a0.2.2.1.1) (pc2 := 37) S gf_X5_21 0 rfl rfl dX5_walksThrough_34 rfl ?_
    refine v_getN (v := .ref a0.2.2.1.2.1) (pc2 := 40) S gf_X5_58 7 rfl rfl dX5_walksThrough_37 rfl ?_
    refine v_iload_n (pc2 := 41) S 1 dX5_walksThrough_40 rfl rfl rfl ?_
    obtain ⟨h4, hw⟩ := hw
    refine v_iald (pc2 := 42) S 8 rfl h4 dX5_walksThrough_41 rfl ?_
    refine v_callV (pc2 := 45) (As := [.int i1, .int (v0.2.1.1 i0.toNatClampNeg)]) (rest := [.int i0, .ref a0.2.2.1.2.1]) S (c_X3_otherHall l G a0.2.1 v0.1 i1 (v0.2.1.1 i0.toNatClampNeg) _ hw) mf_X3_otherHall u_646 u_353 u_354 0 3 rfl rfl rfl rfl ⟨rfl, rfl⟩ ⟨Nat.le_of_ble_eq_true rfl, Nat.le_of_ble_eq_true rfl⟩ ⟨Nat.le_of_ble_eq_true rfl, Nat.le_of_ble_eq_true rfl⟩ (Nat.le_of_ble_eq_true rfl) dX5_walksThrough_42 (frM ([(a0.1, .inr (5, [.ref a0.2.1.1, .ref a0.2.2.1.1, .ref a0.2.2.2.1, .int v0.2.2.2]))]) (wLoom G a0.2.1 v0.1.1 v0.1.2.1 v0.1.2.2.1 v0.1.2.2.2.1 v0.1.2.2.2.2.1 v0.1.2.2.2.2.2) ((wGu G a0.2.2.1 v0.2.1.1 v0.2.1.2.1 v0.2.1.2.2) ++ (wAc G a0.2.2.2 v0.2.2.1.1 v0.2.2.1.2.1 v0.2.2.1.2.2.1 v0.2.2.1.2.2.2.1 v0.2.2.1.2.2.2.2.1 v0.2.2.1.2.2.2.2.2.1 v0.2.2.1.2.2.2.2.2.2))) rfl (pi (fun r5 u6 hw => ?_))
    refine v_to (wSt G a0 v0.1 v0.2.1 v0.2.2.1 v0.2.2.2) 45 [(0, .ref a0.1), (1, .int i0), (2, .int i1), (3, .int r1)] _ [.int r5, .int i0, .ref a0.2.2.1.2.1] rfl rfl rfl rfl ?_
    obtain ⟨h7, hw⟩ := hw
    obtain ⟨g8, eg8⟩ : ∃ y : Nat → Int32, y = upd v0.2.1.1 i0.toNatClampNeg r5 := ⟨_, rfl⟩
    have hw := hw g8 eg8
    refine v_iast (ws2 := wSt G a0 v0.1 (g8, v0.2.1.2.1, v0.2.1.2.2) v0.2.2.1 v0.2.2.2) (pc2 := 46) S 8 rfl h7 (by rw [eg8] <;> rfl) dX5_walksThrough_45 rfl ?_
    refine v_aload_n (pc2 := 47) S 0 dX5_walksThrough_46 rfl rfl rfl ?_
    refine v_get (v := .ref a0.2.2.1.1) (pc2 := 50) S gf_X5_21 0 rfl rfl dX5_walksThrough_47 rfl ?_
    refine v_getN (v := .ref a0.2.2.1.2.2.2) (pc2 := 53) S gf_X5_96 7 rfl rfl dX5_walksThrough_50 rfl ?_
    refine v_iload_n (pc2 := 54) S 1 dX5_walksThrough_53 rfl rfl rfl ?_
    refine v_dup2 (pc2 := 55) S dX5_walksThrough_54 rfl rfl rfl ?_
    obtain ⟨h9, hw⟩ := hw
    refine v_iald (pc2 := 56) S 10 rfl h9 dX5_walksThrough_55 rfl ?_
    refine v_iconst (v := 1) (pc2 := 57) S dX5_walksThrough_56 (by decide) rfl ?_
    refine v_iadd (pc2 := 58) S dX5_walksThrough_57 rfl ?_
    obtain ⟨h10, hw⟩ := hw
    obtain ⟨g11, eg11⟩ : ∃ y : Nat → Int32, y = upd v0.2.1.2.2 i0.toNatClampNeg ((v0.2.1.2.2 i0.toNatClampNeg) + (1 : Int32)) := ⟨_, rfl⟩
    have hw := hw g11 eg11
    refine v_iast (ws2 := wSt G a0 v0.1 (g8, v0.2.1.2.1, g11) v0.2.2.1 v0.2.2.2) (pc2 := 59) S 10 rfl h10 (by rw [eg11] <;> rfl) dX5_walksThrough_58 rfl ?_
    refine v_bipush (v := 10) (pc2 := 61) S dX5_walksThrough_59 (by decide) rfl ?_
    refine v_aload_n (pc2 := 62) S 0 dX5_walksThrough_61 rfl rfl rfl ?_
    refine v_get (v := .ref a0.2.2.1.1) (pc2 := 65) S gf_X5_21 0 rfl rfl dX5_walksThrough_62 rfl ?_
    refine v_getN (v := .ref a0.2.2.1.2.1) (pc2 := 68) S gf_X5_58 7 rfl rfl dX5_walksThrough_65 rfl ?_
    refine v_iload_n (pc2 := 69) S 1 dX5_walksThrough_68 rfl rfl rfl ?_
    obtain ⟨h12, hw⟩ := hw
    refine v_iald (pc2 := 70) S 8 rfl h12 dX5_walksThrough_69 rfl ?_
    refine v_iadd (pc2 := 71) S dX5_walksThrough_70 rfl ?_
    exact v_iret S ⟨(10 : Int32) + (g8 i0.toNatClampNeg), (v0.1, (g8, v0.2.1.2.1, g11), v0.2.2.1, v0.2.2.2), rfl, rfl, hw⟩ dX5_walksThrough_71
  · have hw := hw.2 c3
    refine v_aload_n (pc2 := 12) S 0 dX5_walksThrough_11 rfl rfl rfl ?_
    refine v_get (v := .ref a0.2.2.2.1) (pc2 := 15) S gf_X5_28 0 rfl rfl dX5_walksThrough_12 rfl ?_
    refine v_iload_n (pc2 := 16) S 3 dX5_walksThrough_15 rfl rfl rfl ?_
    refine v_callV (pc2 := 19) (As := [.int r1]) (rest := []) S (c_X0_noteRefused l G a0.2.2.2 v0.2.2.1 r1 _ hw) mf_X0_noteRefused u_555 u_556 u_557 0 0 rfl rfl rfl rfl ⟨rfl, rfl⟩ ⟨Nat.le_of_ble_eq_true rfl, Nat.le_of_ble_eq_true rfl⟩ ⟨Nat.le_of_ble_eq_true rfl, Nat.le_of_ble_eq_true rfl⟩ (Nat.le_of_ble_eq_true rfl) dX5_walksThrough_16 (frM (([(a0.1, .inr (5, [.ref a0.2.1.1, .ref a0.2.2.1.1, .ref a0.2.2.2.1, .int v0.2.2.2]))] : va_W) ++ ((wLoom G a0.2.1 v0.1.1 v0.1.2.1 v0.1.2.2.1 v0.1.2.2.2.1 v0.1.2.2.2.2.1 v0.1.2.2.2.2.2) ++ (wGu G a0.2.2.1 v0.2.1.1 v0.2.1.2.1 v0.2.1.2.2))) (wAc G a0.2.2.2 v0.2.2.1.1 v0.2.2.1.2.1 v0.2.2.1.2.2.1 v0.2.2.1.2.2.2.1 v0.2.2.1.2.2.2.2.1 v0.2.2.1.2.2.2.2.2.1 v0.2.2.1.2.2.2.2.2.2) ([])) rfl (pi (fun r13 u14 hw => ?_))
    refine v_to (wSt G a0 v0.1 v0.2.1 u14 v0.2.2.2) 19 [(0, .ref a0.1), (1, .int i0), (2, .int i1), (3, .int r1)] _ [.int r13] rfl rfl rfl rfl ?_
    exact v_iret S ⟨r13, (v0.1, v0.2.1, u14, v0.2.2.2), rfl, rfl, hw⟩ dX5_walksThrough_19
set_option maxHeartbeats 4000000 in
set_option maxRecDepth 100000 in
theorem c_X5_laysCord (l : Launch) (G : GG) (a0 : StA) (v0 : StV) (i0 : Int32) (i1 : Int32) (i2 : Int32) (Q : Int32 → StV → Prop) (hw : wp_X5_laysCord v0 i0 i1 i2 Q) : Con l G yX5_laysCord cX5_laysCord 4 (some .int) { frames := 2, cells := 0, slots := 0, locals := 42 } [.ref a0.1, .int i0, .int i1, .int i2] (wSt G a0 v0.1 v0.2.1 v0.2.2.1 v0.2.2.2) (PI (fun u : StV => wSt G a0 u.1 u.2.1 u.2.2.1 u.2.2.2) Q) 0 0 := by
  refine con_of RX5 rfl (by decide) [(0, .ref a0.1), (1, .int i0), (2, .int i1), (3, .int i2)] rfl (Nat.le_of_ble_eq_true rfl) ?_
  intro p e s m args below meth c S hname
  refine v_aload_n (pc2 := 1) S 0 dX5_laysCord_0 rfl rfl rfl ?_
  refine v_iload_n (pc2 := 2) S 1 dX5_laysCord_1 rfl rfl rfl ?_
  refine v_callV (pc2 := 5) (As := [.int i0]) (rest := []) S (c_X5_isOpen l G a0 v0 i0 _ hw) mf_X5_isOpen u_282 u_283 u_284 0 5 rfl rfl rfl rfl ⟨rfl, rfl⟩ ⟨Nat.le_of_ble_eq_true rfl, Nat.le_of_ble_eq_true rfl⟩ ⟨Nat.le_of_ble_eq_true rfl, Nat.le_of_ble_eq_true rfl⟩ (Nat.le_of_ble_eq_true rfl) dX5_laysCord_2 (frW _) rfl (pb (fun r1 u2 br1 hw => ?_))
  refine v_to (wSt G a0 v0.1 v0.2.1 v0.2.2.1 v0.2.2.2) 5 [(0, .ref a0.1), (1, .int i0), (2, .int i1), (3, .int i2)] _ [.int r1] rfl rfl rfl rfl ?_
  refine v_if_eq (pc2 := 8) (tgt := 31) S dX5_laysCord_5 (by decide) rfl (fun c3 => ?_) (fun c3 => ?_)
  · have hw := hw.1 c3
    refine v_aload_n (pc2 := 32) S 0 dX5_laysCord_31 rfl rfl rfl ?_
    refine v_get (v := .ref a0.2.1.1) (pc2 := 35) S gf_X5_12 0 rfl rfl dX5_laysCord_32 rfl ?_
    refine v_iload_n (pc2 := 36) S 1 dX5_laysCord_35 rfl rfl rfl ?_
    refine v_iload_n (pc2 := 37) S 2 dX5_laysCord_36 rfl rfl rfl ?_
    refine v_iload_n (pc2 := 38) S 3 dX5_laysCord_37 rfl rfl rfl ?_
    refine v_callV (pc2 := 41) (As := [.int i0, .int i1, .int i2]) (rest := []) S (c_X3_layCord l G a0.2.1 v0.1 i0 i1 i2 _ hw) mf_X3_layCord u_601 u_602 u_603 0 3 rfl rfl rfl rfl ⟨rfl, rfl⟩ ⟨Nat.le_of_ble_eq_true rfl, Nat.le_of_ble_eq_true rfl⟩ ⟨Nat.le_of_ble_eq_true rfl, Nat.le_of_ble_eq_true rfl⟩ (Nat.le_of_ble_eq_true rfl) dX5_laysCord_38 (frM ([(a0.1, .inr (5, [.ref a0.2.1.1, .ref a0.2.2.1.1, .ref a0.2.2.2.1, .int v0.2.2.2]))]) (wLoom G a0.2.1 v0.1.1 v0.1.2.1 v0.1.2.2.1 v0.1.2.2.2.1 v0.1.2.2.2.2.1 v0.1.2.2.2.2.2) ((wGu G a0.2.2.1 v0.2.1.1 v0.2.1.2.1 v0.2.1.2.2) ++ (wAc G a0.2.2.2 v0.2.2.1.1 v0.2.2.1.2.1 v0.2.2.1.2.2.1 v0.2.2.1.2.2.2.1 v0.2.2.1.2.2.2.2.1 v0.2.2.1.2.2.2.2.2.1 v0.2.2.1.2.2.2.2.2.2))) rfl (pv (fun u5 hw => ?_))
    refine v_to (wSt G a0 u5 v0.2.1 v0.2.2.1 v0.2.2.2) 41 [(0, .ref a0.1), (1, .int i0), (2, .int i1), (3, .int i2)] _ [] rfl rfl rfl rfl ?_
    refine v_bipush (v := 10) (pc2 := 43) S dX5_laysCord_41 (by decide) rfl ?_
    exact v_iret S ⟨(10 : Int32), (u5, v0.2.1, v0.2.2.1, v0.2.2.2), rfl, rfl, hw⟩ dX5_laysCord_43
  · have hw := hw.2 c3
    refine v_iload_n (pc2 := 9) S 3 dX5_laysCord_8 rfl rfl rfl ?_
    refine v_bipush (v := 10) (pc2 := 11) S dX5_laysCord_9 (by decide) rfl ?_
    refine v_icmp_eq (pc2 := 14) (tgt := 31) S dX5_laysCord_11 (by decide) rfl (fun c6 => ?_) (fun c6 => ?_)
    · have hw := hw.1 c6
      refine v_aload_n (pc2 := 32) S 0 dX5_laysCord_31 rfl rfl rfl ?_
      refine v_get (v := .ref a0.2.1.1) (pc2 := 35) S gf_X5_12 0 rfl rfl dX5_laysCord_32 rfl ?_
      refine v_iload_n (pc2 := 36) S 1 dX5_laysCord_35 rfl rfl rfl ?_
      refine v_iload_n (pc2 := 37) S 2 dX5_laysCord_36 rfl rfl rfl ?_
      refine v_iload_n (pc2 := 38) S 3 dX5_laysCord_37 rfl rfl rfl ?_
      refine v_callV (pc2 := 41) (As := [.int i0, .int i1, .int i2]) (rest := []) S (c_X3_layCord l G a0.2.1 v0.1 i0 i1 i2 _ hw) mf_X3_layCord u_601 u_602 u_603 0 3 rfl rfl rfl rfl ⟨rfl, rfl⟩ ⟨Nat.le_of_ble_eq_true rfl, Nat.le_of_ble_eq_true rfl⟩ ⟨Nat.le_of_ble_eq_true rfl, Nat.le_of_ble_eq_true rfl⟩ (Nat.le_of_ble_eq_true rfl) dX5_laysCord_38 (frM ([(a0.1, .inr (5, [.ref a0.2.1.1, .ref a0.2.2.1.1, .ref a0.2.2.2.1, .int v0.2.2.2]))]) (wLoom G a0.2.1 v0.1.1 v0.1.2.1 v0.1.2.2.1 v0.1.2.2.2.1 v0.1.2.2.2.2.1 v0.1.2.2.2.2.2) ((wGu G a0.2.2.1 v0.2.1.1 v0.2.1.2.1 v0.2.1.2.2) ++ (wAc G a0.2.2.2 v0.2.2.1.1 v0.2.2.1.2.1 v0.2.2.1.2.2.1 v0.2.2.1.2.2.2.1 v0.2.2.1.2.2.2.2.1 v0.2.2.1.2.2.2.2.2.1 v0.2.2.1.2.2.2.2.2.2))) rfl (pv (fun u8 hw => ?_))
      refine v_to (wSt G a0 u8 v0.2.1 v0.2.2.1 v0.2.2.2) 41 [(0, .ref a0.1), (1, .int i0), (2, .int i1), (3, .int i2)] _ [] rfl rfl rfl rfl ?_
      refine v_bipush (v := 10) (pc2 := 43) S dX5_laysCord_41 (by decide) rfl ?_
      exact v_iret S ⟨(10 : Int32), (u8, v0.2.1, v0.2.2.1, v0.2.2.2), rfl, rfl, hw⟩ dX5_laysCord_43
    · have hw := hw.2 c6
      refine v_aload_n (pc2 := 15) S 0 dX5_laysCord_14 rfl rfl rfl ?_
      refine v_iload_n (pc2 := 16) S 3 dX5_laysCord_15 rfl rfl rfl ?_
      refine v_callV (pc2 := 19) (As := [.int i2]) (rest := []) S (c_X5_isOpen l G a0 v0 i2 _ hw) mf_X5_isOpen u_282 u_283 u_284 0 5 rfl rfl rfl rfl ⟨rfl, rfl⟩ ⟨Nat.le_of_ble_eq_true rfl, Nat.le_of_ble_eq_true rfl⟩ ⟨Nat.le_of_ble_eq_true rfl, Nat.le_of_ble_eq_true rfl⟩ (Nat.le_of_ble_eq_true rfl) dX5_laysCord_16 (frW _) rfl (pb (fun r9 u10 br9 hw => ?_))
      refine v_to (wSt G a0 v0.1 v0.2.1 v0.2.2.1 v0.2.2.2) 19 [(0, .ref a0.1), (1, .int i0), (2, .int i1), (3, .int i2)] _ [.int r9] rfl rfl rfl rfl ?_
      refine v_if_eq (pc2 := 22) (tgt := 31) S dX5_laysCord_19 (by decide) rfl (fun c11 => ?_) (fun c11 => ?_)
      · have hw := hw.1 c11
        refine v_aload_n (pc2 := 32) S 0 dX5_laysCord_31 rfl rfl rfl ?_
        refine v_get (v := .ref a0.2.1.1) (pc2 := 35) S gf_X5_12 0 rfl rfl dX5_laysCord_32 rfl ?_
        refine v_iload_n (pc2 := 36) S 1 dX5_laysCord_35 rfl rfl rfl ?_
        refine v_iload_n (pc2 := 37) S 2 dX5_laysCord_36 rfl rfl rfl ?_
        refine v_iload_n (pc2 := 38) S 3 dX5_laysCord_37 rfl rfl rfl ?_
        refine v_callV (pc2 := 41) (As := [.int i0, .int i1, .int i2]) (rest := []) S (c_X3_layCord l G a0.2.1 v0.1 i0 i1 i2 _ hw) mf_X3_layCord u_601 u_602 u_603 0 3 rfl rfl rfl rfl ⟨rfl, rfl⟩ ⟨Nat.le_of_ble_eq_true rfl, Nat.le_of_ble_eq_true rfl⟩ ⟨Nat.le_of_ble_eq_true rfl, Nat.le_of_ble_eq_true rfl⟩ (Nat.le_of_ble_eq_true rfl) dX5_laysCord_38 (frM ([(a0.1, .inr (5, [.ref a0.2.1.1, .ref a0.2.2.1.1, .ref a0.2.2.2.1, .int v0.2.2.2]))]) (wLoom G a0.2.1 v0.1.1 v0.1.2.1 v0.1.2.2.1 v0.1.2.2.2.1 v0.1.2.2.2.2.1 v0.1.2.2.2.2.2) ((wGu G a0.2.2.1 v0.2.1.1 v0.2.1.2.1 v0.2.1.2.2) ++ (wAc G a0.2.2.2 v0.2.2.1.1 v0.2.2.1.2.1 v0.2.2.1.2.2.1 v0.2.2.1.2.2.2.1 v0.2.2.1.2.2.2.2.1 v0.2.2.1.2.2.2.2.2.1 v0.2.2.1.2.2.2.2.2.2))) rfl (pv (fun u13 hw => ?_))
        refine v_to (wSt G a0 u13 v0.2.1 v0.2.2.1 v0.2.2.2) 41 [(0, .ref a0.1), (1, .int i0), (2, .int i1), (3, .int i2)] _ [] rfl rfl rfl rfl ?_
        refine v_bipush (v := 10) (pc2 := 43) S dX5_laysCord_41 (by decide) rfl ?_
        exact v_iret S ⟨(10 : Int32), (u13, v0.2.1, v0.2.2.1, v0.2.2.2), rfl, rfl, hw⟩ dX5_laysCord_43
      · have hw := hw.2 c11
        refine v_aload_n (pc2 := 23) S 0 dX5_laysCord_22 rfl rfl rfl ?_
        refine v_get (v := .ref a0.2.2.2.1) (pc2 := 26) S gf_X5_28 0 rfl rfl dX5_laysCord_23 rfl ?_
        refine v_iconst (v := 4) (pc2 := 27) S dX5_laysCord_26 (by decide) rfl ?_
        refine v_callV (pc2 := 30) (As := [.int (4 : Int32)]) (rest := []) S (c_X0_noteRefused l G a0.2.2.2 v0.2.2.1 (4 : Int32) _ hw) mf_X0_noteRefused u_555 u_556 u_557 0 0 rfl rfl rfl rfl ⟨rfl, rfl⟩ ⟨Nat.le_of_ble_eq_true rfl, Nat.le_of_ble_eq_true rfl⟩ ⟨Nat.le_of_ble_eq_true rfl, Nat.le_of_ble_eq_true rfl⟩ (Nat.le_of_ble_eq_true rfl) dX5_laysCord_27 (frM (([(a0.1, .inr (5, [.ref a0.2.1.1, .ref a0.2.2.1.1, .ref a0.2.2.2.1, .int v0.2.2.2]))] : va_W) ++ ((wLoom G a0.2.1 v0.1.1 v0.1.2.1 v0.1.2.2.1 v0.1.2.2.2.1 v0.1.2.2.2.2.1 v0.1.2.2.2.2.2) ++ (wGu G a0.2.2.1 v0.2.1.1 v0.2.1.2.1 v0.2.1.2.2))) (wAc G a0.2.2.2 v0.2.2.1.1 v0.2.2.1.2.1 v0.2.2.1.2.2.1 v0.2.2.1.2.2.2.1 v0.2.2.1.2.2.2.2.1 v0.2.2.1.2.2.2.2.2.1 v0.2.2.1.2.2.2.2.2.2) ([])) rfl (pi (fun r14 u15 hw => ?_))
        refine v_to (wSt G a0 v0.1 v0.2.1 u15 v0.2.2.2) 30 [(0, .ref a0.1), (1, .int i0), (2, .int i1), (3, .int i2)] _ [.int r14] rfl rfl rfl rfl ?_
        exact v_iret S ⟨r14, (v0.1, v0.2.1, u15, v0.2.2.2), rfl, rfl, hw⟩ dX5_laysCord_30
