set_option maxHeartbeats 4000000 in
set_option maxRecDepth 100000 in
theorem c_X2_init (l : Launch) (G : GG) (a0 : Nat) (Q : HistV → Prop) (hw : wp_X2_init Q) : Con l G yX2_init cX2_init 2 none { frames := 4, cells := 57, slots := 384, locals := 86 } [.ref a0] [(a0, .inr (2, [.null, .int 0, .int 0]))] (PV (fun u : HistA × HistV => wHist G u.1 u.2.1 u.2.2.1 u.2.2.2) (fun u => u.1.1 = a0 ∧ Q u.2)) 57 384 := by
  refine con_of RX2 rfl (by decide) [(0, .ref a0)] rfl (Nat.le_of_ble_eq_true rfl) ?_
  intro p e s m args below meth c S hname
  refine v_aload_n (pc2 := 1) S 0 dX2_init_0 rfl rfl rfl ?_
  refine v_objInit (pc2 := 4) S u_166 u_39 u_40 (Nat.le_of_ble_eq_true rfl) (Nat.le_of_ble_eq_true rfl) dX2_init_1 rfl ?_
  refine v_aload_n (pc2 := 5) S 0 dX2_init_4 rfl rfl rfl ?_
  refine v_iconst (v := 4) (pc2 := 6) S dX2_init_5 (by decide) rfl ?_
  refine v_newq (pc2 := 9) (N := 4) S u_167 (by decide) (by decide) (Nat.le_of_ble_eq_true rfl) (Nat.le_of_ble_eq_true rfl) (Nat.le_of_ble_eq_true rfl) dX2_init_6 rfl (fun q1 => ?_)
  refine v_to ([(a0, .inr (2, [.null, .int 0, .int 0])), (q1, .inl (G.2.2, 4, .inr (.inr (.inr (.inr (fun _ => none))))))]) 9 [(0, .ref a0)] _ [.ref q1, .ref a0] rfl rfl rfl rfl ?_
  refine v_putF (ws2 := [(a0, .inr (2, [.ref q1, .int 0, .int 0])), (q1, .inl (G.2.2, 4, .inr (.inr (.inr (.inr (fun _ => none))))))]) (pc2 := 12) S (show meth.name = "<init>" from hname) gf_X2_11 pf_X2_0 rfl 0 rfl rfl rfl (Nat.le_of_ble_eq_true rfl) rfl dX2_init_9 rfl ?_
  refine v_aload_n (pc2 := 13) S 0 dX2_init_12 rfl rfl rfl ?_
  refine v_iconst (v := 0) (pc2 := 14) S dX2_init_13 (by decide) rfl ?_
  refine v_put (ws2 := [(a0, .inr (2, [.ref q1, .int (0 : Int32), .int 0])), (q1, .inl (G.2.2, 4, .inr (.inr (.inr (.inr (fun _ => none))))))]) (pc2 := 17) S gf_X2_17 pf_X2_1 0 rfl rfl rfl (Nat.le_of_ble_eq_true rfl) rfl dX2_init_14 rfl ?_
  refine v_aload_n (pc2 := 18) S 0 dX2_init_17 rfl rfl rfl ?_
  refine v_iconst (v := 0) (pc2 := 19) S dX2_init_18 (by decide) rfl ?_
  refine v_put (ws2 := [(a0, .inr (2, [.ref q1, .int (0 : Int32), .int (0 : Int32)])), (q1, .inl (G.2.2, 4, .inr (.inr (.inr (.inr (fun _ => none))))))]) (pc2 := 22) S gf_X2_21 pf_X2_2 0 rfl rfl rfl (Nat.le_of_ble_eq_true rfl) rfl dX2_init_19 rfl ?_
  refine v_iconst (v := 0) (pc2 := 23) S dX2_init_22 (by decide) rfl ?_
  refine v_istore_n (lv2 := [(0, .ref a0), (1, .int (0 : Int32))]) (pc2 := 24) S dX2_init_23 rfl (by decide) [1, 0] rfl rfl ?_
  refine v_iload_n (pc2 := 25) S 1 dX2_init_24 rfl rfl rfl ?_
  refine v_iconst (v := 4) (pc2 := 26) S dX2_init_25 (by decide) rfl ?_
  refine v_icmp_ge (pc2 := 29) (tgt := 48) S dX2_init_26 (by decide) rfl (fun c0 => ?_) (fun c0 => ?_)
  · exact absurd c0 (by decide)
  · skip
    refine v_aload_n (pc2 := 30) S 0 dX2_init_29 rfl rfl rfl ?_
    refine v_get (v := .ref q1) (pc2 := 33) S gf_X2_11 0 rfl rfl dX2_init_30 rfl ?_
    refine v_iload_n (pc2 := 34) S 1 dX2_init_33 rfl rfl rfl ?_
    refine v_new (a := 0) (ci := 5) (N := 4) (C := RX5) (T := TX5) (fs := [.null, .null, .null, .int 0]) (pc2 := 37) S tyX5 tyX5_ok rfl inX5 u_167 u_42 u_21 (fun j hj => by match j, hj with | 0, _ => rfl | 1, _ => rfl | 2, _ => rfl | 3, _ => rfl) (Nat.le_of_ble_eq_true rfl) (Nat.le_of_ble_eq_true rfl) dX2_init_34 rfl (fun q2 => ?_)
    refine v_to ([(a0, .inr (2, [.ref q1, .int (0 : Int32), .int (0 : Int32)])), (q1, .inl (G.2.2, 4, .inr (.inr (.inr (.inr (fun _ => none)))))), (q2, .inr (5, [.null, .null, .null, .int 0]))]) 37 [(0, .ref a0), (1, .int (0 : Int32))] _ [.ref q2, .int (0 : Int32), .ref q1] rfl rfl rfl rfl ?_
    refine v_dup (pc2 := 38) S dX2_init_37 rfl rfl ?_
    refine v_callIN (rt2 := none) (pc2 := 41) (As := []) (rest := [.ref q2, .int (0 : Int32), .ref q1]) S (c_X5_init l G q2 _ hw) mf_X5_init u_169 u_44 rfl rfl rfl ⟨rfl, rfl⟩ ⟨Nat.le_of_ble_eq_true rfl, Nat.le_of_ble_eq_true rfl⟩ ⟨Nat.le_of_ble_eq_true rfl, Nat.le_of_ble_eq_true rfl⟩ (Nat.le_of_ble_eq_true rfl) dX2_init_38 (frM ([(a0, .inr (2, [.ref q1, .int (0 : Int32), .int (0 : Int32)])), (q1, .inl (G.2.2, 4, .inr (.inr (.inr (.inr (fun _ => none))))))]) [(q2, .inr (5, [.null, .null, .null, .int 0]))] []) rfl (pv (fun u3 hw => ?_))
    obtain ⟨⟨b4, b4r⟩, v5⟩ := u3
    obtain ⟨hq, hw⟩ := hw
    have hq : b4 = q2 := hq
    subst b4
    refine v_to (([(a0, .inr (2, [.ref q1, .int (0 : Int32), .int (0 : Int32)])), (q1, .inl (G.2.2, 4, .inr (.inr (.inr (.inr (fun _ => none))))))] : va_W) ++ (wSt G (q2, b4r) v5.1 v5.2.1 v5.2.2.1 v5.2.2.2)) 41 [(0, .ref a0), (1, .int (0 : Int32))] _ [.ref q2, .int (0 : Int32), .ref q1] rfl rfl rfl rfl ?_
    refine v_aast (ws2 := ([(a0, .inr (2, [.ref q1, .int (0 : Int32), .int (0 : Int32)])), (q1, .inl (G.2.2, 4, .inr (.inr (.inr (.inr (va_up (fun _ => none) 0 (some q2)))))))] : va_W) ++ (wSt G (q2, b4r) v5.1 v5.2.1 v5.2.2.1 v5.2.2.2)) (pc2 := 42) S 1 2 rfl rfl in4_0 rfl dX2_init_41 rfl ?_
    refine v_iinc (v := 1) (lv2 := [(0, .ref a0), (1, .int (1 : Int32))]) (pc2 := 45) S 1 dX2_init_42 rfl (by decide) (by decide) [1, 0] rfl rfl ?_
    refine v_goto (tgt := 24) S dX2_init_45 (by decide) ?_
    refine v_iload_n (pc2 := 25) S 1 dX2_init_24 rfl rfl rfl ?_
    refine v_iconst (v := 4) (pc2 := 26) S dX2_init_25 (by decide) rfl ?_
    refine v_icmp_ge (pc2 := 29) (tgt := 48) S dX2_init_26 (by decide) rfl (fun c0 => ?_) (fun c0 => ?_)
    · exact absurd c0 (by decide)
    · skip
      refine v_aload_n (pc2 := 30) S 0 dX2_init_29 rfl rfl rfl ?_
      refine v_get (v := .ref q1) (pc2 := 33) S gf_X2_11 0 rfl rfl dX2_init_30 rfl ?_
      refine v_iload_n (pc2 := 34) S 1 dX2_init_33 rfl rfl rfl ?_
      refine v_new (a := 0) (ci := 5) (N := 4) (C := RX5) (T := TX5) (fs := [.null, .null, .null, .int 0]) (pc2 := 37) S tyX5 tyX5_ok rfl inX5 u_167 u_42 u_21 (fun j hj => by match j, hj with | 0, _ => rfl | 1, _ => rfl | 2, _ => rfl | 3, _ => rfl) (Nat.le_of_ble_eq_true rfl) (Nat.le_of_ble_eq_true rfl) dX2_init_34 rfl (fun q6 => ?_)
      refine v_to (([(a0, .inr (2, [.ref q1, .int (0 : Int32), .int (0 : Int32)])), (q1, .inl (G.2.2, 4, .inr (.inr (.inr (.inr (va_up (fun _ => none) 0 (some q2)))))))] : va_W) ++ ((wSt G (q2, b4r) v5.1 v5.2.1 v5.2.2.1 v5.2.2.2) ++ (([(q6, .inr (5, [.null, .null, .null, .int 0]))] : va_W)))) 37 [(0, .ref a0), (1, .int (1 : Int32))] _ [.ref q6, .int (1 : Int32), .ref q1] rfl rfl rfl rfl ?_
      refine v_dup (pc2 := 38) S dX2_init_37 rfl rfl ?_
      refine v_callIN (rt2 := none) (pc2 := 41) (As := []) (rest := [.ref q6, .int (1 : Int32), .ref q1]) S (c_X5_init l G q6 _ hw) mf_X5_init u_169 u_44 rfl rfl rfl ⟨rfl, rfl⟩ ⟨Nat.le_of_ble_eq_true rfl, Nat.le_of_ble_eq_true rfl⟩ ⟨Nat.le_of_ble_eq_true rfl, Nat.le_of_ble_eq_true rfl⟩ (Nat.le_of_ble_eq_true rfl) dX2_init_38 (frM (([(a0, .inr (2, [.ref q1, .int (0 : Int32), .int (0 : Int32)])), (q1, .inl (G.2.2, 4, .inr (.inr (.inr (.inr (va_up (fun _ => none) 0 (some q2)))))))] : va_W) ++ (wSt G (q2, b4r) v5.1 v5.2.1 v5.2.2.1 v5.2.2.2)) [(q6, .inr (5, [.null, .null, .null, .int 0]))] []) rfl (pv (fun u7 hw => ?_))
      obtain ⟨⟨b8, b8r⟩, v9⟩ := u7
      obtain ⟨hq, hw⟩ := hw
      have hq : b8 = q6 := hq
      subst b8
      refine v_to (([(a0, .inr (2, [.ref q1, .int (0 : Int32), .int (0 : Int32)])), (q1, .inl (G.2.2, 4, .inr (.inr (.inr (.inr (va_up (fun _ => none) 0 (some q2)))))))] : va_W) ++ ((wSt G (q2, b4r) v5.1 v5.2.1 v5.2.2.1 v5.2.2.2) ++ (wSt G (q6, b8r) v9.1 v9.2.1 v9.2.2.1 v9.2.2.2))) 41 [(0, .ref a0), (1, .int (1 : Int32))] _ [.ref q6, .int (1 : Int32), .ref q1] rfl rfl rfl rfl ?_
      refine v_aast (ws2 := ([(a0, .inr (2, [.ref q1, .int (0 : Int32), .int (0 : Int32)])), (q1, .inl (G.2.2, 4, .inr (.inr (.inr (.inr (va_up (va_up (fun _ => none) 0 (some q2)) 1 (some q6)))))))] : va_W) ++ ((wSt G (q2, b4r) v5.1 v5.2.1 v5.2.2.1 v5.2.2.2) ++ (wSt G (q6, b8r) v9.1 v9.2.1 v9.2.2.1 v9.2.2.2))) (pc2 := 42) S 1 16 rfl rfl in4_1 rfl dX2_init_41 rfl ?_
      refine v_iinc (v := 2) (lv2 := [(0, .ref a0), (1, .int (2 : Int32))]) (pc2 := 45) S 1 dX2_init_42 rfl (by decide) (by decide) [1, 0] rfl rfl ?_
      refine v_goto (tgt := 24) S dX2_init_45 (by decide) ?_
      refine v_iload_n (pc2 := 25) S 1 dX2_init_24 rfl rfl rfl ?_
      refine v_iconst (v := 4) (pc2 := 26) S dX2_init_25 (by decide) rfl ?_
      refine v_icmp_ge (pc2 := 29) (tgt := 48) S dX2_init_26 (by decide) rfl (fun c0 => ?_) (fun c0 => ?_)
      · exact absurd c0 (by decide)
      · skip
        refine v_aload_n (pc2 := 30) S 0 dX2_init_29 rfl rfl rfl ?_
        refine v_get (v := .ref q1) (pc2 := 33) S gf_X2_11 0 rfl rfl dX2_init_30 rfl ?_
        refine v_iload_n (pc2 := 34) S 1 dX2_init_33 rfl rfl rfl ?_
        refine v_new (a := 0) (ci := 5) (N := 4) (C := RX5) (T := TX5) (fs := [.null, .null, .null, .int 0]) (pc2 := 37) S tyX5 tyX5_ok rfl inX5 u_167 u_42 u_21 (fun j hj => by match j, hj with | 0, _ => rfl | 1, _ => rfl | 2, _ => rfl | 3, _ => rfl) (Nat.le_of_ble_eq_true rfl) (Nat.le_of_ble_eq_true rfl) dX2_init_34 rfl (fun q10 => ?_)
        refine v_to (([(a0, .inr (2, [.ref q1, .int (0 : Int32), .int (0 : Int32)])), (q1, .inl (G.2.2, 4, .inr (.inr (.inr (.inr (va_up (va_up (fun _ => none) 0 (some q2)) 1 (some q6)))))))] : va_W) ++ ((wSt G (q2, b4r) v5.1 v5.2.1 v5.2.2.1 v5.2.2.2) ++ ((wSt G (q6, b8r) v9.1 v9.2.1 v9.2.2.1 v9.2.2.2) ++ (([(q10, .inr (5, [.null, .null, .null, .int 0]))] : va_W))))) 37 [(0, .ref a0), (1, .int (2 : Int32))] _ [.ref q10, .int (2 : Int32), .ref q1] rfl rfl rfl rfl ?_
        refine v_dup (pc2 := 38) S dX2_init_37 rfl rfl ?_
        refine v_callIN (rt2 := none) (pc2 := 41) (As := []) (rest := [.ref q10, .int (2 : Int32), .ref q1]) S (c_X5_init l G q10 _ hw) mf_X5_init u_169 u_44 rfl rfl rfl ⟨rfl, rfl⟩ ⟨Nat.le_of_ble_eq_true rfl, Nat.le_of_ble_eq_true rfl⟩ ⟨Nat.le_of_ble_eq_true rfl, Nat.le_of_ble_eq_true rfl⟩ (Nat.le_of_ble_eq_true rfl) dX2_init_38 (frM (([(a0, .inr (2, [.ref q1, .int (0 : Int32), .int (0 : Int32)])), (q1, .inl (G.2.2, 4, .inr (.inr (.inr (.inr (va_up (va_up (fun _ => none) 0 (some q2)) 1 (some q6)))))))] : va_W) ++ ((wSt G (q2, b4r) v5.1 v5.2.1 v5.2.2.1 v5.2.2.2) ++ (wSt G (q6, b8r) v9.1 v9.2.1 v9.2.2.1 v9.2.2.2))) [(q10, .inr (5, [.null, .null, .null, .int 0]))] []) rfl (pv (fun u11 hw => ?_))
        obtain ⟨⟨b12, b12r⟩, v13⟩ := u11
        obtain ⟨hq, hw⟩ := hw
        have hq : b12 = q10 := hq
        subst b12
        refine v_to (([(a0, .inr (2, [.ref q1, .int (0 : Int32), .int (0 : Int32)])), (q1, .inl (G.2.2, 4, .inr (.inr (.inr (.inr (va_up (va_up (fun _ => none) 0 (some q2)) 1 (some q6)))))))] : va_W) ++ ((wSt G (q2, b4r) v5.1 v5.2.1 v5.2.2.1 v5.2.2.2) ++ ((wSt G (q6, b8r) v9.1 v9.2.1 v9.2.2.1 v9.2.2.2) ++ (wSt G (q10, b12r) v13.1 v13.2.1 v13.2.2.1 v13.2.2.2)))) 41 [(0, .ref a0), (1, .int (2 : Int32))] _ [.ref q10, .int (2 : Int32), .ref q1] rfl rfl rfl rfl ?_
        refine v_aast (ws2 := ([(a0, .inr (2, [.ref q1, .int (0 : Int32), .int (0 : Int32)])), (q1, .inl (G.2.2, 4, .inr (.inr (.inr (.inr (va_up (va_up (va_up (fun _ => none) 0 (some q2)) 1 (some q6)) 2 (some q10)))))))] : va_W) ++ ((wSt G (q2, b4r) v5.1 v5.2.1 v5.2.2.1 v5.2.2.2) ++ ((wSt G (q6, b8r) v9.1 v9.2.1 v9.2.2.1 v9.2.2.2) ++ (wSt G (q10, b12r) v13.1 v13.2.1 v13.2.2.1 v13.2.2.2)))) (pc2 := 42) S 1 30 rfl rfl in4_2 rfl dX2_init_41 rfl ?_
        refine v_iinc (v := 3) (lv2 := [(0, .ref a0), (1, .int (3 : Int32))]) (pc2 := 45) S 1 dX2_init_42 rfl (by decide) (by decide) [1, 0] rfl rfl ?_
        refine v_goto (tgt := 24) S dX2_init_45 (by decide) ?_
        refine v_iload_n (pc2 := 25) S 1 dX2_init_24 rfl rfl rfl ?_
        refine v_iconst (v := 4) (pc2 := 26) S dX2_init_25 (by decide) rfl ?_
        refine v_icmp_ge (pc2 := 29) (tgt := 48) S dX2_init_26 (by decide) rfl (fun c0 => ?_) (fun c0 => ?_)
        · exact absurd c0 (by decide)
        · skip
          refine v_aload_n (pc2 := 30) S 0 dX2_init_29 rfl rfl rfl ?_
          refine v_get (v := .ref q1) (pc2 := 33) S gf_X2_11 0 rfl rfl dX2_init_30 rfl ?_
          refine v_iload_n (pc2 := 34) S 1 dX2_init_33 rfl rfl rfl ?_
          refine v_new (a := 0) (ci := 5) (N := 4) (C := RX5) (T := TX5) (fs := [.null, .null, .null, .int 0]) (pc2 := 37) S tyX5 tyX5_ok rfl inX5 u_167 u_42 u_21 (fun j hj => by match j, hj with | 0, _ => rfl | 1, _ => rfl | 2, _ => rfl | 3, _ => rfl) (Nat.le_of_ble_eq_true rfl) (Nat.le_of_ble_eq_true rfl) dX2_init_34 rfl (fun q14 => ?_)
          refine v_to (([(a0, .inr (2, [.ref q1, .int (0 : Int32), .int (0 : Int32)])), (q1, .inl (G.2.2, 4, .inr (.inr (.inr (.inr (va_up (va_up (va_up (fun _ => none) 0 (some q2)) 1 (some q6)) 2 (some q10)))))))] : va_W) ++ ((wSt G (q2, b4r) v5.1 v5.2.1 v5.2.2.1 v5.2.2.2) ++ ((wSt G (q6, b8r) v9.1 v9.2.1 v9.2.2.1 v9.2.2.2) ++ ((wSt G (q10, b12r) v13.1 v13.2.1 v13.2.2.1 v13.2.2.2) ++ (([(q14, .inr (5, [.null, .null, .null, .int 0]))] : va_W)))))) 37 [(0, .ref a0), (1, .int (3 : Int32))] _ [.ref q14, .int (3 : Int32), .ref q1] rfl rfl rfl rfl ?_
          refine v_dup (pc2 := 38) S dX2_init_37 rfl rfl ?_
          refine v_callIN (rt2 := none) (pc2 := 41) (As := []) (rest := [.ref q14, .int (3 : Int32), .ref q1]) S (c_X5_init l G q14 _ hw) mf_X5_init u_169 u_44 rfl rfl rfl ⟨rfl, rfl⟩ ⟨Nat.le_of_ble_eq_true rfl, Nat.le_of_ble_eq_true rfl⟩ ⟨Nat.le_of_ble_eq_true rfl, Nat.le_of_ble_eq_true rfl⟩ (Nat.le_of_ble_eq_true rfl) dX2_init_38 (frM (([(a0, .inr (2, [.ref q1, .int (0 : Int32), .int (0 : Int32)])), (q1, .inl (G.2.2, 4, .inr (.inr (.inr (.inr (va_up (va_up (va_up (fun _ => none) 0 (some q2)) 1 (some q6)) 2 (some q10)))))))] : va_W) ++ ((wSt G (q2, b4r) v5.1 v5.2.1 v5.2.2.1 v5.2.2.2) ++ ((wSt G (q6, b8r) v9.1 v9.2.1 v9.2.2.1 v9.2.2.2) ++ (wSt G (q10, b12r) v13.1 v13.2.1 v13.2.2.1 v13.2.2.2)))) [(q14, .inr (5, [.null, .null, .null, .int 0]))] []) rfl (pv (fun u15 hw => ?_))
          obtain ⟨⟨b16, b16r⟩, v17⟩ := u15
          obtain ⟨hq, hw⟩ := hw
          have hq : b16 = q14 := hq
          subst b16
          refine v_to (([(a0, .inr (2, [.ref q1, .int (0 : Int32), .int (0 : Int32)])), (q1, .inl (G.2.2, 4, .inr (.inr (.inr (.inr (va_up (va_up (va_up (fun _ => none) 0 (some q2)) 1 (some q6)) 2 (some q10)))))))] : va_W) ++ ((wSt G (q2, b4r) v5.1 v5.2.1 v5.2.2.1 v5.2.2.2) ++ ((wSt G (q6, b8r) v9.1 v9.2.1 v9.2.2.1 v9.2.2.2) ++ ((wSt G (q10, b12r) v13.1 v13.2.1 v13.2.2.1 v13.2.2.2) ++ (wSt G (q14, b16r) v17.1 v17.2.1 v17.2.2.1 v17.2.2.2))))) 41 [(0, .ref a0), (1, .int (3 : Int32))] _ [.ref q14, .int (3 : Int32), .ref q1] rfl rfl rfl rfl ?_
          refine v_aast (ws2 := ([(a0, .inr (2, [.ref q1, .int (0 : Int32), .int (0 : Int32)])), (q1, .inl (G.2.2, 4, .inr (.inr (.inr (.inr (va_up (va_up (va_up (va_up (fun _ => none) 0 (some q2)) 1 (some q6)) 2 (some q10)) 3 (some q14)))))))] : va_W) ++ ((wSt G (q2, b4r) v5.1 v5.2.1 v5.2.2.1 v5.2.2.2) ++ ((wSt G (q6, b8r) v9.1 v9.2.1 v9.2.2.1 v9.2.2.2) ++ ((wSt G (q10, b12r) v13.1 v13.2.1 v13.2.2.1 v13.2.2.2) ++ (wSt G (q14, b16r) v17.1 v17.2.1 v17.2.2.1 v17.2.2.2))))) (pc2 := 42) S 1 44 rfl rfl in4_3 rfl dX2_init_41 rfl ?_
          refine v_iinc (v := 4) (lv2 := [(0, .ref a0), (1, .int (4 : Int32))]) (pc2 := 45) S 1 dX2_init_42 rfl (by decide) (by decide) [1, 0] rfl rfl ?_
          refine v_goto (tgt := 24) S dX2_init_45 (by decide) ?_
          refine v_iload_n (pc2 := 25) S 1 dX2_init_24 rfl rfl rfl ?_
          refine v_iconst (v := 4) (pc2 := 26) S dX2_init_25 (by decide) rfl ?_
          refine v_icmp_ge (pc2 := 29) (tgt := 48) S dX2_init_26 (by decide) rfl (fun c0 => ?_) (fun c0 => ?_)
          · skip
            refine v_to (wHist G (a0, (q1, (q2, b4r), (q6, b8r), (q10, b12r), (q14, b16r))) (v5, v9, v13, v17) (0 : Int32) (0 : Int32)) 48 [(0, .ref a0), (1, .int (4 : Int32))] _ [] rfl rfl rfl rfl ?_
            exact v_vret S ⟨((a0, (q1, (q2, b4r), (q6, b8r), (q10, b12r), (q14, b16r))), ((v5, v9, v13, v17), (0 : Int32), (0 : Int32))), rfl, rfl, rfl, hw⟩ dX2_init_48
          · exact absurd (by decide) c0
set_option maxHeartbeats 4000000 in
set_option maxRecDepth 100000 in
theorem c_X2_slotBehind (l : Launch) (G : GG) (a0 : HistA) (v0 : HistV) (i0 : Int32) (Q : Int32 → Prop) (hw : wp_X2_slotBehind v0 i0 Q) : Con l G yX2_slotBehind cX2_slotBehind 2 (some (.object "CordDoors$State")) { frames := 1, cells := 0, slots := 0, locals := 22 } [.ref a0.1, .int i0] (wHist G a0 v0.1 v0.2.1 v0.2.2) (PA (fun r : Int32 => if r = 0 then a0.2.2.1.1 else if r = 1 then a0.2.2.2.1.1 else if r = 2 then a0.2.2.2.2.1.1 else if r = 3 then a0.2.2.2.2.2.1 else 0) (fun _ : Unit => wHist G a0 v0.1 v0.2.1 v0.2.2) (fun r _ => Q r)) 0 0 := by
  refine con_of RX2 rfl (by decide) [(0, .ref a0.1), (1, .int i0)] rfl (Nat.le_of_ble_eq_true rfl) ?_
  intro p e s m args below meth c S hname
  refine v_aload_n (pc2 := 1) S 0 dX2_slotBehind_0 rfl rfl rfl ?_
  refine v_get (v := .ref a0.2.1) (pc2 := 4) S gf_X2_11 0 rfl rfl dX2_slotBehind_1 rfl ?_
  refine v_aload_n (pc2 := 5) S 0 dX2_slotBehind_4 rfl rfl rfl ?_
  refine v_get (v := .int v0.2.1) (pc2 := 8) S gf_X2_17 0 rfl rfl dX2_slotBehind_5 rfl ?_
  refine v_iload_n (pc2 := 9) S 1 dX2_slotBehind_8 rfl rfl rfl ?_
  refine v_iadd (pc2 := 10) S dX2_slotBehind_9 rfl ?_
  refine v_iconst (v := 4) (pc2 := 11) S dX2_slotBehind_10 (by decide) rfl ?_
  refine v_callS (pc2 := 14) (As := [.int (v0.2.1 + i0), .int (4 : Int32)]) (rest := [.ref a0.2.1]) S (c_J9_floorMod_7cf53 l G (v0.2.1 + i0) (4 : Int32) _ hw) mf_J9_floorMod_7cf53 u_436 u_437 rfl rfl ⟨rfl, rfl⟩ ⟨Nat.le_of_ble_eq_true rfl, Nat.le_of_ble_eq_true rfl⟩ ⟨Nat.le_of_ble_eq_true rfl, Nat.le_of_ble_eq_true rfl⟩ (Nat.le_of_ble_eq_true rfl) dX2_slotBehind_11 (frM [] [] _) rfl (pi (fun r1 u2 hw => ?_))
  refine v_to (wHist G a0 v0.1 v0.2.1 v0.2.2) 14 [(0, .ref a0.1), (1, .int i0)] _ [.int r1, .ref a0.2.1] rfl rfl rfl rfl ?_
  refine v_nm (fun z3 ez3 => ?_)
  have hw := hw z3 ez3
  obtain ⟨h5, hw⟩ := hw
  rcases h5 with rfl | rfl | rfl | rfl
  · have hw := hw.1 rfl
    refine v_aald (v := .ref a0.2.2.1.1) (pc2 := 15) S 1 rfl in4_0 rfl dX2_slotBehind_14 rfl ?_
    exact v_aret S ⟨(0 : Int32), (), rfl, rfl, hw⟩ dX2_slotBehind_15
  · have hw := hw.2.1 rfl
    refine v_aald (v := .ref a0.2.2.2.1.1) (pc2 := 15) S 1 rfl in4_1 rfl dX2_slotBehind_14 rfl ?_
    exact v_aret S ⟨(1 : Int32), (), rfl, rfl, hw⟩ dX2_slotBehind_15
  · have hw := hw.2.2.1 rfl
    refine v_aald (v := .ref a0.2.2.2.2.1.1) (pc2 := 15) S 1 rfl in4_2 rfl dX2_slotBehind_14 rfl ?_
    exact v_aret S ⟨(2 : Int32), (), rfl, rfl, hw⟩ dX2_slotBehind_15
  · have hw := hw.2.2.2 rfl
    refine v_aald (v := .ref a0.2.2.2.2.2.1) (pc2 := 15) S 1 rfl in4_3 rfl dX2_slotBehind_14 rfl ?_
    exact v_aret S ⟨(3 : Int32), (), rfl, rfl, hw⟩ dX2_slotBehind_15
set_option maxHeartbeats 4000000 in
set_option maxRecDepth 100000 in
theorem c_X2_record (l : Launch) (G : GG) (a0 : HistA) (a1 : StA) (v0 : HistV) (v1 : StV) (Q : HistV → Prop) (hw : wp_X2_record v0 v1 Q) : Con l G yX2_record cX2_record 2 none { frames := 3, cells := 0, slots := 0, locals := 102 } [.ref a0.1, .ref a1.1] (wHist G a0 v0.1 v0.2.1 v0.2.2 ++ wSt G a1 v1.1 v1.2.1 v1.2.2.1 v1.2.2.2) (PV (fun u : HistV => wHist G a0 u.1 u.2.1 u.2.2 ++ wSt G a1 v1.1 v1.2.1 v1.2.2.1 v1.2.2.2) Q) 0 0 := by
  refine con_of RX2 rfl (by decide) [(0, .ref a0.1), (1, .ref a1.1)] rfl (Nat.le_of_ble_eq_true rfl) ?_
  intro p e s m args below meth c S hname
  refine v_aload_n (pc2 := 1) S 0 dX2_record_0 rfl rfl rfl ?_
  refine v_aload_n (pc2 := 2) S 0 dX2_record_1 rfl rfl rfl ?_
  refine v_get (v := .int v0.2.2) (pc2 := 5) S gf_X2_21 0 rfl rfl dX2_record_2 rfl ?_
  refine v_callV (pc2 := 8) (As := [.int v0.2.2]) (rest := []) S (c_X2_slotBehind l G a0 v0 v0.2.2 _ hw) mf_X2_slotBehind u_432 u_434 u_10 0 2 rfl rfl rfl rfl ⟨rfl, rfl⟩ ⟨Nat.le_of_ble_eq_true rfl, Nat.le_of_ble_eq_true rfl⟩ ⟨Nat.le_of_ble_eq_true rfl, Nat.le_of_ble_eq_true rfl⟩ (Nat.le_of_ble_eq_true rfl) dX2_record_5 (frM ([]) (wHist G a0 v0.1 v0.2.1 v0.2.2) (wSt G a1 v1.1 v1.2.1 v1.2.2.1 v1.2.2.2)) rfl (pa (fun r1 u2 hw => ?_))
  obtain ⟨h3, hw⟩ := hw
  rcases h3 with rfl | rfl | rfl | rfl
  · have hw := hw.1 rfl
    refine v_to (wHist G a0 v0.1 v0.2.1 v0.2.2 ++ wSt G a1 v1.1 v1.2.1 v1.2.2.1 v1.2.2.2) 8 [(0, .ref a0.1), (1, .ref a1.1)] _ [.ref a0.2.2.1.1] rfl rfl rfl rfl ?_
    refine v_aload_n (pc2 := 9) S 1 dX2_record_8 rfl rfl rfl ?_
    refine v_callV (pc2 := 12) (As := [.ref a1.1]) (rest := []) S (c_X5_copy l G a0.2.2.1 a1 v0.1.1 v1 _ hw) mf_X5_copy u_439 u_440 u_441 0 5 rfl rfl rfl rfl ⟨rfl, rfl⟩ ⟨Nat.le_of_ble_eq_true rfl, Nat.le_of_ble_eq_true rfl⟩ ⟨Nat.le_of_ble_eq_true rfl, Nat.le_of_ble_eq_true rfl⟩ (Nat.le_of_ble_eq_true rfl) dX2_record_9 (frP (Rs := ([(a0.1, .inr (2, [.ref a0.2.1, .int v0.2.1, .int v0.2.2]))] : va_W) ++ (([(a0.2.1, .inl (G.2.2, 4, .inr (.inr (.inr (.inr (fun i => if i = 3 then some a0.2.2.2.2.2.1 else if i = 2 then some a0.2.2.2.2.1.1 else if i = 1 then some a0.2.2.2.1.1 else if i = 0 then some a0.2.2.1.1 else none))))))] : va_W) ++ ((wSt G a0.2.2.2.1 v0.1.2.1.1 v0.1.2.1.2.1 v0.1.2.1.2.2.1 v0.1.2.1.2.2.2) ++ ((wSt G a0.2.2.2.2.1 v0.1.2.2.1.1 v0.1.2.2.1.2.1 v0.1.2.2.1.2.2.1 v0.1.2.2.1.2.2.2) ++ (wSt G a0.2.2.2.2.2 v0.1.2.2.2.1 v0.1.2.2.2.2.1 v0.1.2.2.2.2.2.1 v0.1.2.2.2.2.2.2))))) (gperm [[(a0.1, .inr (2, [.ref a0.2.1, .int v0.2.1, .int v0.2.2]))], [(a0.2.1, .inl (G.2.2, 4, .inr (.inr (.inr (.inr (fun i => if i = 3 then some a0.2.2.2.2.2.1 else if i = 2 then some a0.2.2.2.2.1.1 else if i = 1 then some a0.2.2.2.1.1 else if i = 0 then some a0.2.2.1.1 else none))))))], wSt G a0.2.2.1 v0.1.1.1 v0.1.1.2.1 v0.1.1.2.2.1 v0.1.1.2.2.2, wSt G a0.2.2.2.1 v0.1.2.1.1 v0.1.2.1.2.1 v0.1.2.1.2.2.1 v0.1.2.1.2.2.2, wSt G a0.2.2.2.2.1 v0.1.2.2.1.1 v0.1.2.2.1.2.1 v0.1.2.2.1.2.2.1 v0.1.2.2.1.2.2.2, wSt G a0.2.2.2.2.2 v0.1.2.2.2.1 v0.1.2.2.2.2.1 v0.1.2.2.2.2.2.1 v0.1.2.2.2.2.2.2, wSt G a1 v1.1 v1.2.1 v1.2.2.1 v1.2.2.2] [2, 6, 0, 1, 3, 4, 5] rfl)) rfl (pv (fun u5 hw => ?_))
    refine v_perm _ (gperm [wSt G a0.2.2.1 u5.1 u5.2.1 u5.2.2.1 u5.2.2.2, wSt G a1 v1.1 v1.2.1 v1.2.2.1 v1.2.2.2, [(a0.1, .inr (2, [.ref a0.2.1, .int v0.2.1, .int v0.2.2]))], [(a0.2.1, .inl (G.2.2, 4, .inr (.inr (.inr (.inr (fun i => if i = 3 then some a0.2.2.2.2.2.1 else if i = 2 then some a0.2.2.2.2.1.1 else if i = 1 then some a0.2.2.2.1.1 else if i = 0 then some a0.2.2.1.1 else none))))))], wSt G a0.2.2.2.1 v0.1.2.1.1 v0.1.2.1.2.1 v0.1.2.1.2.2.1 v0.1.2.1.2.2.2, wSt G a0.2.2.2.2.1 v0.1.2.2.1.1 v0.1.2.2.1.2.1 v0.1.2.2.1.2.2.1 v0.1.2.2.1.2.2.2, wSt G a0.2.2.2.2.2 v0.1.2.2.2.1 v0.1.2.2.2.2.1 v0.1.2.2.2.2.2.1 v0.1.2.2.2.2.2.2] [2, 3, 0, 4, 5, 6, 1] rfl) ?_
    refine v_to (wHist G a0 (u5, v0.1.2.1, v0.1.2.2.1, v0.1.2.2.2) v0.2.1 v0.2.2 ++ wSt G a1 v1.1 v1.2.1 v1.2.2.1 v1.2.2.2) 12 [(0, .ref a0.1), (1, .ref a1.1)] _ [] rfl rfl rfl rfl ?_
    refine v_aload_n (pc2 := 13) S 0 dX2_record_12 rfl rfl rfl ?_
    refine v_get (v := .int v0.2.2) (pc2 := 16) S gf_X2_21 0 rfl rfl dX2_record_13 rfl ?_
    refine v_iconst (v := 4) (pc2 := 17) S dX2_record_16 (by decide) rfl ?_
    refine v_icmp_ge (pc2 := 20) (tgt := 33) S dX2_record_17 (by decide) rfl (fun c6 => ?_) (fun c6 => ?_)
    · have hw := hw.1 c6
      refine v_aload_n (pc2 := 34) S 0 dX2_record_33 rfl rfl rfl ?_
      refine v_aload_n (pc2 := 35) S 0 dX2_record_34 rfl rfl rfl ?_
      refine v_get (v := .int v0.2.1) (pc2 := 38) S gf_X2_17 0 rfl rfl dX2_record_35 rfl ?_
      refine v_iconst (v := 1) (pc2 := 39) S dX2_record_38 (by decide) rfl ?_
      refine v_iadd (pc2 := 40) S dX2_record_39 rfl ?_
      refine v_iconst (v := 4) (pc2 := 41) S dX2_record_40 (by decide) rfl ?_
      refine v_irem (pc2 := 42) S (by decide) dX2_record_41 rfl ?_
      refine v_nm (fun z7 ez7 => ?_)
      have hw := hw z7 ez7
      refine v_put (ws2 := wHist G a0 (u5, v0.1.2.1, v0.1.2.2.1, v0.1.2.2.2) z7 v0.2.2 ++ wSt G a1 v1.1 v1.2.1 v1.2.2.1 v1.2.2.2) (pc2 := 45) S gf_X2_17 pf_X2_1 0 rfl rfl rfl (Nat.le_of_ble_eq_true rfl) rfl dX2_record_42 rfl ?_
      exact v_vret S ⟨((u5, v0.1.2.1, v0.1.2.2.1, v0.1.2.2.2), z7, v0.2.2), rfl, rfl, hw⟩ dX2_record_45
    · have hw := hw.2 c6
      refine v_aload_n (pc2 := 21) S 0 dX2_record_20 rfl rfl rfl ?_
      refine v_dup (pc2 := 22) S dX2_record_21 rfl rfl ?_
      refine v_get (v := .int v0.2.2) (pc2 := 25) S gf_X2_21 0 rfl rfl dX2_record_22 rfl ?_
      refine v_iconst (v := 1) (pc2 := 26) S dX2_record_25 (by decide) rfl ?_
      refine v_iadd (pc2 := 27) S dX2_record_26 rfl ?_
      refine v_nm (fun z8 ez8 => ?_)
      have hw := hw z8 ez8
      refine v_put (ws2 := wHist G a0 (u5, v0.1.2.1, v0.1.2.2.1, v0.1.2.2.2) v0.2.1 z8 ++ wSt G a1 v1.1 v1.2.1 v1.2.2.1 v1.2.2.2) (pc2 := 30) S gf_X2_21 pf_X2_2 0 rfl rfl rfl (Nat.le_of_ble_eq_true rfl) rfl dX2_record_27 rfl ?_
      refine v_goto (tgt := 45) S dX2_record_30 (by decide) ?_
      exact v_vret S ⟨((u5, v0.1.2.1, v0.1.2.2.1, v0.1.2.2.2), v0.2.1, z8), rfl, rfl, hw⟩ dX2_record_45
  · have hw := hw.2.1 rfl
    refine v_to (wHist G a0 v0.1 v0.2.1 v0.2.2 ++ wSt G a1 v1.1 v1.2.1 v1.2.2.1 v1.2.2.2) 8 [(0, .ref a0.1), (1, .ref a1.1)] _ [.ref a0.2.2.2.1.1] rfl rfl rfl rfl ?_
    refine v_aload_n (pc2 := 9) S 1 dX2_record_8 rfl rfl rfl ?_
    refine v_callV (pc2 := 12) (As := [.ref a1.1]) (rest := []) S (c_X5_copy l G a0.2.2.2.1 a1 v0.1.2.1 v1 _ hw) mf_X5_copy u_439 u_440 u_441 0 5 rfl rfl rfl rfl ⟨rfl, rfl⟩ ⟨Nat.le_of_ble_eq_true rfl, Nat.le_of_ble_eq_true rfl⟩ ⟨Nat.le_of_ble_eq_true rfl, Nat.le_of_ble_eq_true rfl⟩ (Nat.le_of_ble_eq_true rfl) dX2_record_9 (frP (Rs := ([(a0.1, .inr (2, [.ref a0.2.1, .int v0.2.1, .int v0.2.2]))] : va_W) ++ (([(a0.2.1, .inl (G.2.2, 4, .inr (.inr (.inr (.inr (fun i => if i = 3 then some a0.2.2.2.2.2.1 else if i = 2 then some a0.2.2.2.2.1.1 else if i = 1 then some a0.2.2.2.1.1 else if i = 0 then some a0.2.2.1.1 else none))))))] : va_W) ++ ((wSt G a0.2.2.1 v0.1.1.1 v0.1.1.2.1 v0.1.1.2.2.1 v0.1.1.2.2.2) ++ ((wSt G a0.2.2.2.2.1 v0.1.2.2.1.1 v0.1.2.2.1.2.1 v0.1.2.2.1.2.2.1 v0.1.2.2.1.2.2.2) ++ (wSt G a0.2.2.2.2.2 v0.1.2.2.2.1 v0.1.2.2.2.2.1 v0.1.2.2.2.2.2.1 v0.1.2.2.2.2.2.2))))) (gperm [[(a0.1, .inr (2, [.ref a0.2.1, .int v0.2.1, .int v0.2.2]))], [(a0.2.1, .inl (G.2.2, 4, .inr (.inr (.inr (.inr (fun i => if i = 3 then some a0.2.2.2.2.2.1 else if i = 2 then some a0.2.2.2.2.1.1 else if i = 1 then some a0.2.2.2.1.1 else if i = 0 then some a0.2.2.1.1 else none))))))], wSt G a0.2.2.1 v0.1.1.1 v0.1.1.2.1 v0.1.1.2.2.1 v0.1.1.2.2.2, wSt G a0.2.2.2.1 v0.1.2.1.1 v0.1.2.1.2.1 v0.1.2.1.2.2.1 v0.1.2.1.2.2.2, wSt G a0.2.2.2.2.1 v0.1.2.2.1.1 v0.1.2.2.1.2.1 v0.1.2.2.1.2.2.1 v0.1.2.2.1.2.2.2, wSt G a0.2.2.2.2.2 v0.1.2.2.2.1 v0.1.2.2.2.2.1 v0.1.2.2.2.2.2.1 v0.1.2.2.2.2.2.2, wSt G a1 v1.1 v1.2.1 v1.2.2.1 v1.2.2.2] [3, 6, 0, 1, 2, 4, 5] rfl)) rfl (pv (fun u10 hw => ?_))
    refine v_perm _ (gperm [wSt G a0.2.2.2.1 u10.1 u10.2.1 u10.2.2.1 u10.2.2.2, wSt G a1 v1.1 v1.2.1 v1.2.2.1 v1.2.2.2, [(a0.1, .inr (2, [.ref a0.2.1, .int v0.2.1, .int v0.2.2]))], [(a0.2.1, .inl (G.2.2, 4, .inr (.inr (.inr (.inr (fun i => if i = 3 then some a0.2.2.2.2.2.1 else if i = 2 then some a0.2.2.2.2.1.1 else if i = 1 then some a0.2.2.2.1.1 else if i = 0 then some a0.2.2.1.1 else none))))))], wSt G a0.2.2.1 v0.1.1.1 v0.1.1.2.1 v0.1.1.2.2.1 v0.1.1.2.2.2, wSt G a0.2.2.2.2.1 v0.1.2.2.1.1 v0.1.2.2.1.2.1 v0.1.2.2.1.2.2.1 v0.1.2.2.1.2.2.2, wSt G a0.2.2.2.2.2 v0.1.2.2.2.1 v0.1.2.2.2.2.1 v0.1.2.2.2.2.2.1 v0.1.2.2.2.2.2.2] [2, 3, 4, 0, 5, 6, 1] rfl) ?_
    refine v_to (wHist G a0 (v0.1.1, u10, v0.1.2.2.1, v0.1.2.2.2) v0.2.1 v0.2.2 ++ wSt G a1 v1.1 v1.2.1 v1.2.2.1 v1.2.2.2) 12 [(0, .ref a0.1), (1, .ref a1.1)] _ [] rfl rfl rfl rfl ?_
    refine v_aload_n (pc2 := 13) S 0 dX2_record_12 rfl rfl rfl ?_
    refine v_get (v := .int v0.2.2) (pc2 := 16) S gf_X2_21 0 rfl rfl dX2_record_13 rfl ?_
    refine v_iconst (v := 4) (pc2 := 17) S dX2_record_16 (by decide) rfl ?_
    refine v_icmp_ge (pc2 := 20) (tgt := 33) S dX2_record_17 (by decide) rfl (fun c11 => ?_) (fun c11 => ?_)
    · have hw := hw.1 c11
      refine v_aload_n (pc2 := 34) S 0 dX2_record_33 rfl rfl rfl ?_
      refine v_aload_n (pc2 := 35) S 0 dX2_record_34 rfl rfl rfl ?_
      refine v_get (v := .int v0.2.1) (pc2 := 38) S gf_X2_17 0 rfl rfl dX2_record_35 rfl ?_
      refine v_iconst (v := 1) (pc2 := 39) S dX2_record_38 (by decide) rfl ?_
      refine v_iadd (pc2 := 40) S dX2_record_39 rfl ?_
      refine v_iconst (v := 4) (pc2 := 41) S dX2_record_40 (by decide) rfl ?_
      refine v_irem (pc2 := 42) S (by decide) dX2_record_41 rfl ?_
      refine v_nm (fun z12 ez12 => ?_)
      have hw := hw z12 ez12
      refine v_put (ws2 := wHist G a0 (v0.1.1, u10, v0.1.2.2.1, v0.1.2.2.2) z12 v0.2.2 ++ wSt G a1 v1.1 v1.2.1 v1.2.2.1 v1.2.2.2) (pc2 := 45) S gf_X2_17 pf_X2_1 0 rfl rfl rfl (Nat.le_of_ble_eq_true rfl) rfl dX2_record_42 rfl ?_
      exact v_vret S ⟨((v0.1.1, u10, v0.1.2.2.1, v0.1.2.2.2), z12, v0.2.2), rfl, rfl, hw⟩ dX2_record_45
    · have hw := hw.2 c11
      refine v_aload_n (pc2 := 21) S 0 dX2_record_20 rfl rfl rfl ?_
      refine v_dup (pc2 := 22) S dX2_record_21 rfl rfl ?_
      refine v_get (v := .int v0.2.2) (pc2 := 25) S gf_X2_21 0 rfl rfl dX2_record_22 rfl ?_
      refine v_iconst (v := 1) (pc2 := 26) S dX2_record_25 (by decide) rfl ?_
      refine v_iadd (pc2 := 27) S dX2_record_26 rfl ?_
      refine v_nm (fun z13 ez13 => ?_)
      have hw := hw z13 ez13
      refine v_put (ws2 := wHist G a0 (v0.1.1, u10, v0.1.2.2.1, v0.1.2.2.2) v0.2.1 z13 ++ wSt G a1 v1.1 v1.2.1 v1.2.2.1 v1.2.2.2) (pc2 := 30) S gf_X2_21 pf_X2_2 0 rfl rfl rfl (Nat.le_of_ble_eq_true rfl) rfl dX2_record_27 rfl ?_
      refine v_goto (tgt := 45) S dX2_record_30 (by decide) ?_
      exact v_vret S ⟨((v0.1.1, u10, v0.1.2.2.1, v0.1.2.2.2), v0.2.1, z13), rfl, rfl, hw⟩ dX2_record_45
  · have hw := hw.2.2.1 rfl
    refine v_to (wHist G a0 v0.1 v0.2.1 v0.2.2 ++ wSt G a1 v1.1 v1.2.1 v1.2.2.1 v1.2.2.2) 8 [(0, .ref a0.1), (1, .ref a1.1)] _ [.ref a0.2.2.2.2.1.1] rfl rfl rfl rfl ?_
    refine v_aload_n (pc2 := 9) S 1 dX2_record_8 rfl rfl rfl ?_
    refine v_callV (pc2 := 12) (As := [.ref a1.1]) (rest := []) S (c_X5_copy l G a0.2.2.2.2.1 a1 v0.1.2.2.1 v1 _ hw) mf_X5_copy u_439 u_440 u_441 0 5 rfl rfl rfl rfl ⟨rfl, rfl⟩ ⟨Nat.le_of_ble_eq_true rfl, Nat.le_of_ble_eq_true rfl⟩ ⟨Nat.le_of_ble_eq_true rfl, Nat.le_of_ble_eq_true rfl⟩ (Nat.le_of_ble_eq_true rfl) dX2_record_9 (frP (Rs := ([(a0.1, .inr (2, [.ref a0.2.1, .int v0.2.1, .int v0.2.2]))] : va_W) ++ (([(a0.2.1, .inl (G.2.2, 4, .inr (.inr (.inr (.inr (fun i => if i = 3 then some a0.2.2.2.2.2.1 else if i = 2 then some a0.2.2.2.2.1.1 else if i = 1 then some a0.2.2.2.1.1 else if i = 0 then some a0.2.2.1.1 else none))))))] : va_W) ++ ((wSt G a0.2.2.1 v0.1.1.1 v0.1.1.2.1 v0.1.1.2.2.1 v0.1.1.2.2.2) ++ ((wSt G a0.2.2.2.1 v0.1.2.1.1 v0.1.2.1.2.1 v0.1.2.1.2.2.1 v0.1.2.1.2.2.2) ++ (wSt G a0.2.2.2.2.2 v0.1.2.2.2.1 v0.1.2.2.2.2.1 v0.1.2.2.2.2.2.1 v0.1.2.2.2.2.2.2))))) (gperm [[(a0.1, .inr (2, [.ref a0.2.1, .int v0.2.1, .int v0.2.2]))], [(a0.2.1, .inl (G.2.2, 4, .inr (.inr (.inr (.inr (fun i => if i = 3 then some a0.2.2.2.2.2.1 else if i = 2 then some a0.2.2.2.2.1.1 else if i = 1 then some a0.2.2.2.1.1 else if i = 0 then some a0.2.2.1.1 else none))))))], wSt G a0.2.2.1 v0.1.1.1 v0.1.1.2.1 v0.1.1.2.2.1 v0.1.1.2.2.2, wSt G a0.2.2.2.1 v0.1.2.1.1 v0.1.2.1.2.1 v0.1.2.1.2.2.1 v0.1.2.1.2.2.2, wSt G a0.2.2.2.2.1 v0.1.2.2.1.1 v0.1.2.2.1.2.1 v0.1.2.2.1.2.2.1 v0.1.2.2.1.2.2.2, wSt G a0.2.2.2.2.2 v0.1.2.2.2.1 v0.1.2.2.2.2.1 v0.1.2.2.2.2.2.1 v0.1.2.2.2.2.2.2, wSt G a1 v1.1 v1.2.1 v1.2.2.1 v1.2.2.2] [4, 6, 0, 1, 2, 3, 5] rfl)) rfl (pv (fun u15 hw => ?_))
    refine v_perm _ (gperm [wSt G a0.2.2.2.2.1 u15.1 u15.2.1 u15.2.2.1 u15.2.2.2, wSt G a1 v1.1 v1.2.1 v1.2.2.1 v1.2.2.2, [(a0.1, .inr (2, [.ref a0.2.1, .int v0.2.1, .int v0.2.2]))], [(a0.2.1, .inl (G.2.2, 4, .inr (.inr (.inr (.inr (fun i => if i = 3 then some a0.2.2.2.2.2.1 else if i = 2 then some a0.2.2.2.2.1.1 else if i = 1 then some a0.2.2.2.1.1 else if i = 0 then some a0.2.2.1.1 else none))))))], wSt G a0.2.2.1 v0.1.1.1 v0.1.1.2.1 v0.1.1.2.2.1 v0.1.1.2.2.2, wSt G a0.2.2.2.1 v0.1.2.1.1 v0.1.2.1.2.1 v0.1.2.1.2.2.1 v0.1.2.1.2.2.2, wSt G a0.2.2.2.2.2 v0.1.2.2.2.1 v0.1.2.2.2.2.1 v0.1.2.2.2.2.2.1 v0.1.2.2.2.2.2.2] [2, 3, 4, 5, 0, 6, 1] rfl) ?_
    refine v_to (wHist G a0 (v0.1.1, v0.1.2.1, u15, v0.1.2.2.2) v0.2.1 v0.2.2 ++ wSt G a1 v1.1 v1.2.1 v1.2.2.1 v1.2.2.2) 12 [(0, .ref a0.1), (1, .ref a1.1)] _ [] rfl rfl rfl rfl ?_
    refine v_aload_n (pc2 := 13) S 0 dX2_record_12 rfl rfl rfl ?_
    refine v_get (v := .int v0.2.2) (pc2 := 16) S gf_X2_21 0 rfl rfl dX2_record_13 rfl ?_
    refine v_iconst (v := 4) (pc2 := 17) S dX2_record_16 (by decide) rfl ?_
    refine v_icmp_ge (pc2 := 20) (tgt := 33) S dX2_record_17 (by decide) rfl (fun c16 => ?_) (fun c16 => ?_)
    · have hw := hw.1 c16
      refine v_aload_n (pc2 := 34) S 0 dX2_record_33 rfl rfl rfl ?_
      refine v_aload_n (pc2 := 35) S 0 dX2_record_34 rfl rfl rfl ?_
      refine v_get (v := .int v0.2.1) (pc2 := 38) S gf_X2_17 0 rfl rfl dX2_record_35 rfl ?_
      refine v_iconst (v := 1) (pc2 := 39) S dX2_record_38 (by decide) rfl ?_
      refine v_iadd (pc2 := 40) S dX2_record_39 rfl ?_
      refine v_iconst (v := 4) (pc2 := 41) S dX2_record_40 (by decide) rfl ?_
      refine v_irem (pc2 := 42) S (by decide) dX2_record_41 rfl ?_
      refine v_nm (fun z17 ez17 => ?_)
      have hw := hw z17 ez17
      refine v_put (ws2 := wHist G a0 (v0.1.1, v0.1.2.1, u15, v0.1.2.2.2) z17 v0.2.2 ++ wSt G a1 v1.1 v1.2.1 v1.2.2.1 v1.2.2.2) (pc2 := 45) S gf_X2_17 pf_X2_1 0 rfl rfl rfl (Nat.le_of_ble_eq_true rfl) rfl dX2_record_42 rfl ?_
      exact v_vret S ⟨((v0.1.1, v0.1.2.1, u15, v0.1.2.2.2), z17, v0.2.2), rfl, rfl, hw⟩ dX2_record_45
    · have hw := hw.2 c16
      refine v_aload_n (pc2 := 21) S 0 dX2_record_20 rfl rfl rfl ?_
      refine v_dup (pc2 := 22) S dX2_record_21 rfl rfl ?_
      refine v_get (v := .int v0.2.2) (pc2 := 25) S gf_X2_21 0 rfl rfl dX2_record_22 rfl ?_
      refine v_iconst (v := 1) (pc2 := 26) S dX2_record_25 (by decide) rfl ?_
      refine v_iadd (pc2 := 27) S dX2_record_26 rfl ?_
      refine v_nm (fun z18 ez18 => ?_)
      have hw := hw z18 ez18
      refine v_put (ws2 := wHist G a0 (v0.1.1, v0.1.2.1, u15, v0.1.2.2.2) v0.2.1 z18 ++ wSt G a1 v1.1 v1.2.1 v1.2.2.1 v1.2.2.2) (pc2 := 30) S gf_X2_21 pf_X2_2 0 rfl rfl rfl (Nat.le_of_ble_eq_true rfl) rfl dX2_record_27 rfl ?_
      refine v_goto (tgt := 45) S dX2_record_30 (by decide) ?_
      exact v_vret S ⟨((v0.1.1, v0.1.2.1, u15, v0.1.2.2.2), v0.2.1, z18), rfl, rfl, hw⟩ dX2_record_45
  · have hw := hw.2.2.2 rfl
    refine v_to (wHist G a0 v0.1 v0.2.1 v0.2.2 ++ wSt G a1 v1.1 v1.2.1 v1.2.2.1 v1.2.2.2) 8 [(0, .ref a0.1), (1, .ref a1.1)] _ [.ref a0.2.2.2.2.2.1] rfl rfl rfl rfl ?_
    refine v_aload_n (pc2 := 9) S 1 dX2_record_8 rfl rfl rfl ?_
    refine v_callV (pc2 := 12) (As := [.ref a1.1]) (rest := []) S (c_X5_copy l G a0.2.2.2.2.2 a1 v0.1.2.2.2 v1 _ hw) mf_X5_copy u_439 u_440 u_441 0 5 rfl rfl rfl rfl ⟨rfl, rfl⟩ ⟨Nat.le_of_ble_eq_true rfl, Nat.le_of_ble_eq_true rfl⟩ ⟨Nat.le_of_ble_eq_true rfl, Nat.le_of_ble_eq_true rfl⟩ (Nat.le_of_ble_eq_true rfl) dX2_record_9 (frM (([(a0.1, .inr (2, [.ref a0.2.1, .int v0.2.1, .int v0.2.2]))] : va_W) ++ (([(a0.2.1, .inl (G.2.2, 4, .inr (.inr (.inr (.inr (fun i => if i = 3 then some a0.2.2.2.2.2.1 else if i = 2 then some a0.2.2.2.2.1.1 else if i = 1 then some a0.2.2.2.1.1 else if i = 0 then some a0.2.2.1.1 else none))))))] : va_W) ++ ((wSt G a0.2.2.1 v0.1.1.1 v0.1.1.2.1 v0.1.1.2.2.1 v0.1.1.2.2.2) ++ ((wSt G a0.2.2.2.1 v0.1.2.1.1 v0.1.2.1.2.1 v0.1.2.1.2.2.1 v0.1.2.1.2.2.2) ++ (wSt G a0.2.2.2.2.1 v0.1.2.2.1.1 v0.1.2.2.1.2.1 v0.1.2.2.1.2.2.1 v0.1.2.2.1.2.2.2))))) (wSt G a0.2.2.2.2.2 v0.1.2.2.2.1 v0.1.2.2.2.2.1 v0.1.2.2.2.2.2.1 v0.1.2.2.2.2.2.2 ++ wSt G a1 v1.1 v1.2.1 v1.2.2.1 v1.2.2.2) ([])) rfl (pv (fun u20 hw => ?_))
    refine v_to (wHist G a0 (v0.1.1, v0.1.2.1, v0.1.2.2.1, u20) v0.2.1 v0.2.2 ++ wSt G a1 v1.1 v1.2.1 v1.2.2.1 v1.2.2.2) 12 [(0, .ref a0.1), (1, .ref a1.1)] _ [] rfl rfl rfl rfl ?_
    refine v_aload_n (pc2 := 13) S 0 dX2_record_12 rfl rfl rfl ?_
    refine v_get (v := .int v0.2.2) (pc2 := 16) S gf_X2_21 0 rfl rfl dX2_record_13 rfl ?_
    refine v_iconst (v := 4) (pc2 := 17) S dX2_record_16 (by decide) rfl ?_
    refine v_icmp_ge (pc2 := 20) (tgt := 33) S dX2_record_17 (by decide) rfl (fun c21 => ?_) (fun c21 => ?_)
    · have hw := hw.1 c21
      refine v_aload_n (pc2 := 34) S 0 dX2_record_33 rfl rfl rfl ?_
      refine v_aload_n (pc2 := 35) S 0 dX2_record_34 rfl rfl rfl ?_
      refine v_get (v := .int v0.2.1) (pc2 := 38) S gf_X2_17 0 rfl rfl dX2_record_35 rfl ?_
      refine v_iconst (v := 1) (pc2 := 39) S dX2_record_38 (by decide) rfl ?_
      refine v_iadd (pc2 := 40) S dX2_record_39 rfl ?_
      refine v_iconst (v := 4) (pc2 := 41) S dX2_record_40 (by decide) rfl ?_
      refine v_irem (pc2 := 42) S (by decide) dX2_record_41 rfl ?_
      refine v_nm (fun z22 ez22 => ?_)
      have hw := hw z22 ez22
      refine v_put (ws2 := wHist G a0 (v0.1.1, v0.1.2.1, v0.1.2.2.1, u20) z22 v0.2.2 ++ wSt G a1 v1.1 v1.2.1 v1.2.2.1 v1.2.2.2) (pc2 := 45) S gf_X2_17 pf_X2_1 0 rfl rfl rfl (Nat.le_of_ble_eq_true rfl) rfl dX2_record_42 rfl ?_
      exact v_vret S ⟨((v0.1.1, v0.1.2.1, v0.1.2.2.1, u20), z22, v0.2.2), rfl, rfl, hw⟩ dX2_record_45
    · have hw := hw.2 c21
      refine v_aload_n (pc2 := 21) S 0 dX2_record_20 rfl rfl rfl ?_
      refine v_dup (pc2 := 22) S dX2_record_21 rfl rfl ?_
      refine v_get (v := .int v0.2.2) (pc2 := 25) S gf_X2_21 0 rfl rfl dX2_record_22 rfl ?_
      refine v_iconst (v := 1) (pc2 := 26) S dX2_record_25 (by decide) rfl ?_
      refine v_iadd (pc2 := 27) S dX2_record_26 rfl ?_
      refine v_nm (fun z23 ez23 => ?_)
      have hw := hw z23 ez23
      refine v_put (ws2 := wHist G a0 (v0.1.1, v0.1.2.1, v0.1.2.2.1, u20) v0.2.1 z23 ++ wSt G a1 v1.1 v1.2.1 v1.2.2.1 v1.2.2.2) (pc2 := 30) S gf_X2_21 pf_X2_2 0 rfl rfl rfl (Nat.le_of_ble_eq_true rfl) rfl dX2_record_27 rfl ?_
      refine v_goto (tgt := 45) S dX2_record_30 (by decide) ?_
      exact v_vret S ⟨((v0.1.1, v0.1.2.1, v0.1.2.2.1, u20), v0.2.1, z23), rfl, rfl, hw⟩ dX2_record_45
set_option maxHeartbeats 4000000 in
set_option maxRecDepth 100000 in
theorem c_X2_takeBack (l : Launch) (G : GG) (a0 : HistA) (a1 : StA) (v0 : HistV) (v1 : StV) (Q : HistV × StV → Prop) (hw : wp_X2_takeBack v0 v1 Q) : Con l G yX2_takeBack cX2_takeBack 2 none { frames := 3, cells := 0, slots := 0, locals := 102 } [.ref a0.1, .ref a1.1] (wHist G a0 v0.1 v0.2.1 v0.2.2 ++ wSt G a1 v1.1 v1.2.1 v1.2.2.1 v1.2.2.2) (PV (fun u : HistV × StV => wHist G a0 u.1.1 u.1.2.1 u.1.2.2 ++ wSt G a1 u.2.1 u.2.2.1 u.2.2.2.1 u.2.2.2.2) Q) 0 0 := by
  refine con_of RX2 rfl (by decide) [(0, .ref a0.1), (1, .ref a1.1)] rfl (Nat.le_of_ble_eq_true rfl) ?_
  intro p e s m args below meth c S hname
  refine v_aload_n (pc2 := 1) S 0 dX2_takeBack_0 rfl rfl rfl ?_
  refine v_get (v := .int v0.2.2) (pc2 := 4) S gf_X2_21 0 rfl rfl dX2_takeBack_1 rfl ?_
  refine v_if_le (pc2 := 7) (tgt := 29) S dX2_takeBack_4 (by decide) rfl (fun c1 => ?_) (fun c1 => ?_)
  · have hw := hw.1 c1
    exact v_vret S ⟨(v0, v1), rfl, rfl, hw⟩ dX2_takeBack_29
  · have hw := hw.2 c1
    refine v_aload_n (pc2 := 8) S 0 dX2_takeBack_7 rfl rfl rfl ?_
    refine v_dup (pc2 := 9) S dX2_takeBack_8 rfl rfl ?_
    refine v_get (v := .int v0.2.2) (pc2 := 12) S gf_X2_21 0 rfl rfl dX2_takeBack_9 rfl ?_
    refine v_iconst (v := 1) (pc2 := 13) S dX2_takeBack_12 (by decide) rfl ?_
    refine v_isub (pc2 := 14) S dX2_takeBack_13 rfl ?_
    refine v_nm (fun z2 ez2 => ?_)
    have hw := hw z2 ez2
    refine v_put (ws2 := wHist G a0 v0.1 v0.2.1 z2 ++ wSt G a1 v1.1 v1.2.1 v1.2.2.1 v1.2.2.2) (pc2 := 17) S gf_X2_21 pf_X2_2 0 rfl rfl rfl (Nat.le_of_ble_eq_true rfl) rfl dX2_takeBack_14 rfl ?_
    refine v_aload_n (pc2 := 18) S 1 dX2_takeBack_17 rfl rfl rfl ?_
    refine v_aload_n (pc2 := 19) S 0 dX2_takeBack_18 rfl rfl rfl ?_
    refine v_aload_n (pc2 := 20) S 0 dX2_takeBack_19 rfl rfl rfl ?_
    refine v_get (v := .int z2) (pc2 := 23) S gf_X2_21 0 rfl rfl dX2_takeBack_20 rfl ?_
    refine v_callV (pc2 := 26) (As := [.int z2]) (rest := [.ref a1.1]) S (c_X2_slotBehind l G a0 (v0.1, v0.2.1, z2) z2 _ hw) mf_X2_slotBehind u_432 u_434 u_10 0 2 rfl rfl rfl rfl ⟨rfl, rfl⟩ ⟨Nat.le_of_ble_eq_true rfl, Nat.le_of_ble_eq_true rfl⟩ ⟨Nat.le_of_ble_eq_true rfl, Nat.le_of_ble_eq_true rfl⟩ (Nat.le_of_ble_eq_true rfl) dX2_takeBack_23 (frM ([]) (wHist G a0 v0.1 v0.2.1 z2) (wSt G a1 v1.1 v1.2.1 v1.2.2.1 v1.2.2.2)) rfl (pa (fun r3 u4 hw => ?_))
    obtain ⟨h5, hw⟩ := hw
    rcases h5 with rfl | rfl | rfl | rfl
    · have hw := hw.1 rfl
      refine v_to (wHist G a0 v0.1 v0.2.1 z2 ++ wSt G a1 v1.1 v1.2.1 v1.2.2.1 v1.2.2.2) 26 [(0, .ref a0.1), (1, .ref a1.1)] _ [.ref a0.2.2.1.1, .ref a1.1] rfl rfl rfl rfl ?_
      refine v_callV (pc2 := 29) (As := [.ref a0.2.2.1.1]) (rest := []) S (c_X5_copy l G a1 a0.2.2.1 v1 v0.1.1 _ hw) mf_X5_copy u_439 u_440 u_441 0 5 rfl rfl rfl rfl ⟨rfl, rfl⟩ ⟨Nat.le_of_ble_eq_true rfl, Nat.le_of_ble_eq_true rfl⟩ ⟨Nat.le_of_ble_eq_true rfl, Nat.le_of_ble_eq_true rfl⟩ (Nat.le_of_ble_eq_true rfl) dX2_takeBack_26 (frP (Rs := ([(a0.1, .inr (2, [.ref a0.2.1, .int v0.2.1, .int z2]))] : va_W) ++ (([(a0.2.1, .inl (G.2.2, 4, .inr (.inr (.inr (.inr (fun i => if i = 3 then some a0.2.2.2.2.2.1 else if i = 2 then some a0.2.2.2.2.1.1 else if i = 1 then some a0.2.2.2.1.1 else if i = 0 then some a0.2.2.1.1 else none))))))] : va_W) ++ ((wSt G a0.2.2.2.1 v0.1.2.1.1 v0.1.2.1.2.1 v0.1.2.1.2.2.1 v0.1.2.1.2.2.2) ++ ((wSt G a0.2.2.2.2.1 v0.1.2.2.1.1 v0.1.2.2.1.2.1 v0.1.2.2.1.2.2.1 v0.1.2.2.1.2.2.2) ++ (wSt G a0.2.2.2.2.2 v0.1.2.2.2.1 v0.1.2.2.2.2.1 v0.1.2.2.2.2.2.1 v0.1.2.2.2.2.2.2))))) (gperm [[(a0.1, .inr (2, [.ref a0.2.1, .int v0.2.1, .int z2]))], [(a0.2.1, .inl (G.2.2, 4, .inr (.inr (.inr (.inr (fun i => if i = 3 then some a0.2.2.2.2.2.1 else if i = 2 then some a0.2.2.2.2.1.1 else if i = 1 then some a0.2.2.2.1.1 else if i = 0 then some a0.2.2.1.1 else none))))))], wSt G a0.2.2.1 v0.1.1.1 v0.1.1.2.1 v0.1.1.2.2.1 v0.1.1.2.2.2, wSt G a0.2.2.2.1 v0.1.2.1.1 v0.1.2.1.2.1 v0.1.2.1.2.2.1 v0.1.2.1.2.2.2, wSt G a0.2.2.2.2.1 v0.1.2.2.1.1 v0.1.2.2.1.2.1 v0.1.2.2.1.2.2.1 v0.1.2.2.1.2.2.2, wSt G a0.2.2.2.2.2 v0.1.2.2.2.1 v0.1.2.2.2.2.1 v0.1.2.2.2.2.2.1 v0.1.2.2.2.2.2.2, wSt G a1 v1.1 v1.2.1 v1.2.2.1 v1.2.2.2] [6, 2, 0, 1, 3, 4, 5] rfl)) rfl (pv (fun u7 hw => ?_))
      refine v_perm _ (gperm [wSt G a1 u7.1 u7.2.1 u7.2.2.1 u7.2.2.2, wSt G a0.2.2.1 v0.1.1.1 v0.1.1.2.1 v0.1.1.2.2.1 v0.1.1.2.2.2, [(a0.1, .inr (2, [.ref a0.2.1, .int v0.2.1, .int z2]))], [(a0.2.1, .inl (G.2.2, 4, .inr (.inr (.inr (.inr (fun i => if i = 3 then some a0.2.2.2.2.2.1 else if i = 2 then some a0.2.2.2.2.1.1 else if i = 1 then some a0.2.2.2.1.1 else if i = 0 then some a0.2.2.1.1 else none))))))], wSt G a0.2.2.2.1 v0.1.2.1.1 v0.1.2.1.2.1 v0.1.2.1.2.2.1 v0.1.2.1.2.2.2, wSt G a0.2.2.2.2.1 v0.1.2.2.1.1 v0.1.2.2.1.2.1 v0.1.2.2.1.2.2.1 v0.1.2.2.1.2.2.2, wSt G a0.2.2.2.2.2 v0.1.2.2.2.1 v0.1.2.2.2.2.1 v0.1.2.2.2.2.2.1 v0.1.2.2.2.2.2.2] [2, 3, 1, 4, 5, 6, 0] rfl) ?_
      refine v_to (wHist G a0 v0.1 v0.2.1 z2 ++ wSt G a1 u7.1 u7.2.1 u7.2.2.1 u7.2.2.2) 29 [(0, .ref a0.1), (1, .ref a1.1)] _ [] rfl rfl rfl rfl ?_
      exact v_vret S ⟨((v0.1, v0.2.1, z2), u7), rfl, rfl, hw⟩ dX2_takeBack_29
    · have hw := hw.2.1 rfl
      refine v_to (wHist G a0 v0.1 v0.2.1 z2 ++ wSt G a1 v1.1 v1.2.1 v1.2.2.1 v1.2.2.2) 26 [(0, .ref a0.1), (1, .ref a1.1)] _ [.ref a0.2.2.2.1.1, .ref a1.1] rfl rfl rfl rfl ?_
      refine v_callV (pc2 := 29) (As := [.ref a0.2.2.2.1.1]) (rest := []) S (c_X5_copy l G a1 a0.2.2.2.1 v1 v0.1.2.1 _ hw) mf_X5_copy u_439 u_440 u_441 0 5 rfl rfl rfl rfl ⟨rfl, rfl⟩ ⟨Nat.le_of_ble_eq_true rfl, Nat.le_of_ble_eq_true rfl⟩ ⟨Nat.le_of_ble_eq_true rfl, Nat.le_of_ble_eq_true rfl⟩ (Nat.le_of_ble_eq_true rfl) dX2_takeBack_26 (frP (Rs := ([(a0.1, .inr (2, [.ref a0.2.1, .int v0.2.1, .int z2]))] : va_W) ++ (([(a0.2.1, .inl (G.2.2, 4, .inr (.inr (.inr (.inr (fun i => if i = 3 then some a0.2.2.2.2.2.1 else if i = 2 then some a0.2.2.2.2.1.1 else if i = 1 then some a0.2.2.2.1.1 else if i = 0 then some a0.2.2.1.1 else none))))))] : va_W) ++ ((wSt G a0.2.2.1 v0.1.1.1 v0.1.1.2.1 v0.1.1.2.2.1 v0.1.1.2.2.2) ++ ((wSt G a0.2.2.2.2.1 v0.1.2.2.1.1 v0.1.2.2.1.2.1 v0.1.2.2.1.2.2.1 v0.1.2.2.1.2.2.2) ++ (wSt G a0.2.2.2.2.2 v0.1.2.2.2.1 v0.1.2.2.2.2.1 v0.1.2.2.2.2.2.1 v0.1.2.2.2.2.2.2))))) (gperm [[(a0.1, .inr (2, [.ref a0.2.1, .int v0.2.1, .int z2]))], [(a0.2.1, .inl (G.2.2, 4, .inr (.inr (.inr (.inr (fun i => if i = 3 then some a0.2.2.2.2.2.1 else if i = 2 then some a0.2.2.2.2.1.1 else if i = 1 then some a0.2.2.2.1.1 else if i = 0 then some a0.2.2.1.1 else none))))))], wSt G a0.2.2.1 v0.1.1.1 v0.1.1.2.1 v0.1.1.2.2.1 v0.1.1.2.2.2, wSt G a0.2.2.2.1 v0.1.2.1.1 v0.1.2.1.2.1 v0.1.2.1.2.2.1 v0.1.2.1.2.2.2, wSt G a0.2.2.2.2.1 v0.1.2.2.1.1 v0.1.2.2.1.2.1 v0.1.2.2.1.2.2.1 v0.1.2.2.1.2.2.2, wSt G a0.2.2.2.2.2 v0.1.2.2.2.1 v0.1.2.2.2.2.1 v0.1.2.2.2.2.2.1 v0.1.2.2.2.2.2.2, wSt G a1 v1.1 v1.2.1 v1.2.2.1 v1.2.2.2] [6, 3, 0, 1, 2, 4, 5] rfl)) rfl (pv (fun u9 hw => ?_))
      refine v_perm _ (gperm [wSt G a1 u9.1 u9.2.1 u9.2.2.1 u9.2.2.2, wSt G a0.2.2.2.1 v0.1.2.1.1 v0.1.2.1.2.1 v0.1.2.1.2.2.1 v0.1.2.1.2.2.2, [(a0.1, .inr (2, [.ref a0.2.1, .int v0.2.1, .int z2]))], [(a0.2.1, .inl (G.2.2, 4, .inr (.inr (.inr (.inr (fun i => if i = 3 then some a0.2.2.2.2.2.1 else if i = 2 then some a0.2.2.2.2.1.1 else if i = 1 then some a0.2.2.2.1.1 else if i = 0 then some a0.2.2.1.1 else none))))))], wSt G a0.2.2.1 v0.1.1.1 v0.1.1.2.1 v0.1.1.2.2.1 v0.1.1.2.2.2, wSt G a0.2.2.2.2.1 v0.1.2.2.1.1 v0.1.2.2.1.2.1 v0.1.2.2.1.2.2.1 v0.1.2.2.1.2.2.2, wSt G a0.2.2.2.2.2 v0.1.2.2.2.1 v0.1.2.2.2.2.1 v0.1.2.2.2.2.2.1 v0.1.2.2.2.2.2.2] [2, 3, 4, 1, 5, 6, 0] rfl) ?_
      refine v_to (wHist G a0 v0.1 v0.2.1 z2 ++ wSt G a1 u9.1 u9.2.1 u9.2.2.1 u9.2.2.2) 29 [(0, .ref a0.1), (1, .ref a1.1)] _ [] rfl rfl rfl rfl ?_
      exact v_vret S ⟨((v0.1, v0.2.1, z2), u9), rfl, rfl, hw⟩ dX2_takeBack_29
    · have hw := hw.2.2.1 rfl
      refine v_to (wHist G a0 v0.1 v0.2.1 z2 ++ wSt G a1 v1.1 v1.2.1 v1.2.2.1 v1.2.2.2) 26 [(0, .ref a0.1), (1, .ref a1.1)] _ [.ref a0.2.2.2.2.1.1, .ref a1.1] rfl rfl rfl rfl ?_
      refine v_callV (pc2 := 29) (As := [.ref a0.2.2.2.2.1.1]) (rest := []) S (c_X5_copy l G a1 a0.2.2.2.2.1 v1 v0.1.2.2.1 _ hw) mf_X5_copy u_439 u_440 u_441 0 5 rfl rfl rfl rfl ⟨rfl, rfl⟩ ⟨Nat.le_of_ble_eq_true rfl, Nat.le_of_ble_eq_true rfl⟩ ⟨Nat.le_of_ble_eq_true rfl, Nat.le_of_ble_eq_true rfl⟩ (Nat.le_of_ble_eq_true rfl) dX2_takeBack_26 (frP (Rs := ([(a0.1, .inr (2, [.ref a0.2.1, .int v0.2.1, .int z2]))] : va_W) ++ (([(a0.2.1, .inl (G.2.2, 4, .inr (.inr (.inr (.inr (fun i => if i = 3 then some a0.2.2.2.2.2.1 else if i = 2 then some a0.2.2.2.2.1.1 else if i = 1 then some a0.2.2.2.1.1 else if i = 0 then some a0.2.2.1.1 else none))))))] : va_W) ++ ((wSt G a0.2.2.1 v0.1.1.1 v0.1.1.2.1 v0.1.1.2.2.1 v0.1.1.2.2.2) ++ ((wSt G a0.2.2.2.1 v0.1.2.1.1 v0.1.2.1.2.1 v0.1.2.1.2.2.1 v0.1.2.1.2.2.2) ++ (wSt G a0.2.2.2.2.2 v0.1.2.2.2.1 v0.1.2.2.2.2.1 v0.1.2.2.2.2.2.1 v0.1.2.2.2.2.2.2))))) (gperm [[(a0.1, .inr (2, [.ref a0.2.1, .int v0.2.1, .int z2]))], [(a0.2.1, .inl (G.2.2, 4, .inr (.inr (.inr (.inr (fun i => if i = 3 then some a0.2.2.2.2.2.1 else if i = 2 then some a0.2.2.2.2.1.1 else if i = 1 then some a0.2.2.2.1.1 else if i = 0 then some a0.2.2.1.1 else none))))))], wSt G a0.2.2.1 v0.1.1.1 v0.1.1.2.1 v0.1.1.2.2.1 v0.1.1.2.2.2, wSt G a0.2.2.2.1 v0.1.2.1.1 v0.1.2.1.2.1 v0.1.2.1.2.2.1 v0.1.2.1.2.2.2, wSt G a0.2.2.2.2.1 v0.1.2.2.1.1 v0.1.2.2.1.2.1 v0.1.2.2.1.2.2.1 v0.1.2.2.1.2.2.2, wSt G a0.2.2.2.2.2 v0.1.2.2.2.1 v0.1.2.2.2.2.1 v0.1.2.2.2.2.2.1 v0.1.2.2.2.2.2.2, wSt G a1 v1.1 v1.2.1 v1.2.2.1 v1.2.2.2] [6, 4, 0, 1, 2, 3, 5] rfl)) rfl (pv (fun u11 hw => ?_))
      refine v_perm _ (gperm [wSt G a1 u11.1 u11.2.1 u11.2.2.1 u11.2.2.2, wSt G a0.2.2.2.2.1 v0.1.2.2.1.1 v0.1.2.2.1.2.1 v0.1.2.2.1.2.2.1 v0.1.2.2.1.2.2.2, [(a0.1, .inr (2, [.ref a0.2.1, .int v0.2.1, .int z2]))], [(a0.2.1, .inl (G.2.2, 4, .inr (.inr (.inr (.inr (fun i => if i = 3 then some a0.2.2.2.2.2.1 else if i = 2 then some a0.2.2.2.2.1.1 else if i = 1 then some a0.2.2.2.1.1 else if i = 0 then some a0.2.2.1.1 else none))))))], wSt G a0.2.2.1 v0.1.1.1 v0.1.1.2.1 v0.1.1.2.2.1 v0.1.1.2.2.2, wSt G a0.2.2.2.1 v0.1.2.1.1 v0.1.2.1.2.1 v0.1.2.1.2.2.1 v0.1.2.1.2.2.2, wSt G a0.2.2.2.2.2 v0.1.2.2.2.1 v0.1.2.2.2.2.1 v0.1.2.2.2.2.2.1 v0.1.2.2.2.2.2.2] [2, 3, 4, 5, 1, 6, 0] rfl) ?_
      refine v_to (wHist G a0 v0.1 v0.2.1 z2 ++ wSt G a1 u11.1 u11.2.1 u11.2.2.1 u11.2.2.2) 29 [(0, .ref a0.1), (1, .ref a1.1)] _ [] rfl rfl rfl rfl ?_
      exact v_vret S ⟨((v0.1, v0.2.1, z2), u11), rfl, rfl, hw⟩ dX2_takeBack_29
    · have hw := hw.2.2.2 rfl
      refine v_to (wHist G a0 v0.1 v0.2.1 z2 ++ wSt G a1 v1.1 v1.2.1 v1.2.2.1 v1.2.2.2) 26 [(0, .ref a0.1), (1, .ref a1.1)] _ [.ref a0.2.2.2.2.2.1, .ref a1.1] rfl rfl rfl rfl ?_
      refine v_callV (pc2 := 29) (As := [.ref a0.2.2.2.2.2.1]) (rest := []) S (c_X5_copy l G a1 a0.2.2.2.2.2 v1 v0.1.2.2.2 _ hw) mf_X5_copy u_439 u_440 u_441 0 5 rfl rfl rfl rfl ⟨rfl, rfl⟩ ⟨Nat.le_of_ble_eq_true rfl, Nat.le_of_ble_eq_true rfl⟩ ⟨Nat.le_of_ble_eq_true rfl, Nat.le_of_ble_eq_true rfl⟩ (Nat.le_of_ble_eq_true rfl) dX2_takeBack_26 (frP (Rs := ([(a0.1, .inr (2, [.ref a0.2.1, .int v0.2.1, .int z2]))] : va_W) ++ (([(a0.2.1, .inl (G.2.2, 4, .inr (.inr (.inr (.inr (fun i => if i = 3 then some a0.2.2.2.2.2.1 else if i = 2 then some a0.2.2.2.2.1.1 else if i = 1 then some a0.2.2.2.1.1 else if i = 0 then some a0.2.2.1.1 else none))))))] : va_W) ++ ((wSt G a0.2.2.1 v0.1.1.1 v0.1.1.2.1 v0.1.1.2.2.1 v0.1.1.2.2.2) ++ ((wSt G a0.2.2.2.1 v0.1.2.1.1 v0.1.2.1.2.1 v0.1.2.1.2.2.1 v0.1.2.1.2.2.2) ++ (wSt G a0.2.2.2.2.1 v0.1.2.2.1.1 v0.1.2.2.1.2.1 v0.1.2.2.1.2.2.1 v0.1.2.2.1.2.2.2))))) (gperm [[(a0.1, .inr (2, [.ref a0.2.1, .int v0.2.1, .int z2]))], [(a0.2.1, .inl (G.2.2, 4, .inr (.inr (.inr (.inr (fun i => if i = 3 then some a0.2.2.2.2.2.1 else if i = 2 then some a0.2.2.2.2.1.1 else if i = 1 then some a0.2.2.2.1.1 else if i = 0 then some a0.2.2.1.1 else none))))))], wSt G a0.2.2.1 v0.1.1.1 v0.1.1.2.1 v0.1.1.2.2.1 v0.1.1.2.2.2, wSt G a0.2.2.2.1 v0.1.2.1.1 v0.1.2.1.2.1 v0.1.2.1.2.2.1 v0.1.2.1.2.2.2, wSt G a0.2.2.2.2.1 v0.1.2.2.1.1 v0.1.2.2.1.2.1 v0.1.2.2.1.2.2.1 v0.1.2.2.1.2.2.2, wSt G a0.2.2.2.2.2 v0.1.2.2.2.1 v0.1.2.2.2.2.1 v0.1.2.2.2.2.2.1 v0.1.2.2.2.2.2.2, wSt G a1 v1.1 v1.2.1 v1.2.2.1 v1.2.2.2] [6, 5, 0, 1, 2, 3, 4] rfl)) rfl (pv (fun u13 hw => ?_))
      refine v_perm _ (gperm [wSt G a1 u13.1 u13.2.1 u13.2.2.1 u13.2.2.2, wSt G a0.2.2.2.2.2 v0.1.2.2.2.1 v0.1.2.2.2.2.1 v0.1.2.2.2.2.2.1 v0.1.2.2.2.2.2.2, [(a0.1, .inr (2, [.ref a0.2.1, .int v0.2.1, .int z2]))], [(a0.2.1, .inl (G.2.2, 4, .inr (.inr (.inr (.inr (fun i => if i = 3 then some a0.2.2.2.2.2.1 else if i = 2 then some a0.2.2.2.2.1.1 else if i = 1 then some a0.2.2.2.1.1 else if i = 0 then some a0.2.2.1.1 else none))))))], wSt G a0.2.2.1 v0.1.1.1 v0.1.1.2.1 v0.1.1.2.2.1 v0.1.1.2.2.2, wSt G a0.2.2.2.1 v0.1.2.1.1 v0.1.2.1.2.1 v0.1.2.1.2.2.1 v0.1.2.1.2.2.2, wSt G a0.2.2.2.2.1 v0.1.2.2.1.1 v0.1.2.2.1.2.1 v0.1.2.2.1.2.2.1 v0.1.2.2.1.2.2.2] [2, 3, 4, 5, 6, 1, 0] rfl) ?_
      refine v_to (wHist G a0 v0.1 v0.2.1 z2 ++ wSt G a1 u13.1 u13.2.1 u13.2.2.1 u13.2.2.2) 29 [(0, .ref a0.1), (1, .ref a1.1)] _ [] rfl rfl rfl rfl ?_
      exact v_vret S ⟨((v0.1, v0.2.1, z2), u13), rfl, rfl, hw⟩ dX2_takeBack_29
