set_option maxHeartbeats 4000000 in
set_option maxRecDepth 100000 in
theorem c_X0_init (l : Launch) (G : GG) (a0 : Nat) (Q : AcV → Prop) (hw : wp_X0_init Q) : Con l G yX0_init cX0_init 1 none { frames := 1, cells := 2, slots := 20, locals := 20 } [.ref a0] [(a0, .inr (0, [.null, .null, .int 0, .int 0, .int 0, .int 0, .int 0]))] (PV (fun u : AcA × AcV => wAc G u.1 u.2.1 u.2.2.1 u.2.2.2.1 u.2.2.2.2.1 u.2.2.2.2.2.1 u.2.2.2.2.2.2.1 u.2.2.2.2.2.2.2) (fun u => u.1.1 = a0 ∧ Q u.2)) 2 20 := by
  refine con_of RX0 rfl (by decide) [(0, .ref a0)] rfl (Nat.le_of_ble_eq_true rfl) ?_
  intro p e s m args below meth c S hname
  refine v_aload_n (pc2 := 1) S 0 dX0_init_0 rfl rfl rfl ?_
  refine v_objInit (pc2 := 4) S u_114 u_39 u_40 (Nat.le_of_ble_eq_true rfl) (Nat.le_of_ble_eq_true rfl) dX0_init_1 rfl ?_
  refine v_aload_n (pc2 := 5) S 0 dX0_init_4 rfl rfl rfl ?_
  refine v_bipush (v := 10) (pc2 := 7) S dX0_init_5 (by decide) rfl ?_
  refine v_newa (pc2 := 9) (N := 10) S u_86 (by decide) (by decide) (Nat.le_of_ble_eq_true rfl) (Nat.le_of_ble_eq_true rfl) (Nat.le_of_ble_eq_true rfl) dX0_init_7 rfl (fun q1 => ?_)
  refine v_to ([(a0, .inr (0, [.null, .null, .int 0, .int 0, .int 0, .int 0, .int 0])), (q1, .inl (G.2.1, 10, .inl (fun _ => 0)))]) 9 [(0, .ref a0)] _ [.ref q1, .ref a0] rfl rfl rfl rfl ?_
  refine v_putF (ws2 := [(a0, .inr (0, [.ref q1, .null, .int 0, .int 0, .int 0, .int 0, .int 0])), (q1, .inl (G.2.1, 10, .inl (fun _ => 0)))]) (pc2 := 12) S (show meth.name = "<init>" from hname) gf_X0_9 pf_X0_0 rfl 0 rfl rfl rfl (Nat.le_of_ble_eq_true rfl) rfl dX0_init_9 rfl ?_
  refine v_aload_n (pc2 := 13) S 0 dX0_init_12 rfl rfl rfl ?_
  refine v_bipush (v := 10) (pc2 := 15) S dX0_init_13 (by decide) rfl ?_
  refine v_newa (pc2 := 17) (N := 10) S u_86 (by decide) (by decide) (Nat.le_of_ble_eq_true rfl) (Nat.le_of_ble_eq_true rfl) (Nat.le_of_ble_eq_true rfl) dX0_init_15 rfl (fun q2 => ?_)
  refine v_to ([(a0, .inr (0, [.ref q1, .null, .int 0, .int 0, .int 0, .int 0, .int 0])), (q1, .inl (G.2.1, 10, .inl (fun _ => 0))), (q2, .inl (G.2.1, 10, .inl (fun _ => 0)))]) 17 [(0, .ref a0)] _ [.ref q2, .ref a0] rfl rfl rfl rfl ?_
  refine v_putF (ws2 := [(a0, .inr (0, [.ref q1, .ref q2, .int 0, .int 0, .int 0, .int 0, .int 0])), (q1, .inl (G.2.1, 10, .inl (fun _ => 0))), (q2, .inl (G.2.1, 10, .inl (fun _ => 0)))]) (pc2 := 20) S (show meth.name = "<init>" from hname) gf_X0_15 pf_X0_1 rfl 0 rfl rfl rfl (Nat.le_of_ble_eq_true rfl) rfl dX0_init_17 rfl ?_
  refine v_aload_n (pc2 := 21) S 0 dX0_init_20 rfl rfl rfl ?_
  refine v_iconst (v := 0) (pc2 := 22) S dX0_init_21 (by decide) rfl ?_
  refine v_put (ws2 := [(a0, .inr (0, [.ref q1, .ref q2, .int (0 : Int32), .int 0, .int 0, .int 0, .int 0])), (q1, .inl (G.2.1, 10, .inl (fun _ => 0))), (q2, .inl (G.2.1, 10, .inl (fun _ => 0)))]) (pc2 := 25) S gf_X0_18 pf_X0_2 0 rfl rfl rfl (Nat.le_of_ble_eq_true rfl) rfl dX0_init_22 rfl ?_
  refine v_aload_n (pc2 := 26) S 0 dX0_init_25 rfl rfl rfl ?_
  refine v_iconst (v := 0) (pc2 := 27) S dX0_init_26 (by decide) rfl ?_
  refine v_put (ws2 := [(a0, .inr (0, [.ref q1, .ref q2, .int (0 : Int32), .int (0 : Int32), .int 0, .int 0, .int 0])), (q1, .inl (G.2.1, 10, .inl (fun _ => 0))), (q2, .inl (G.2.1, 10, .inl (fun _ => 0)))]) (pc2 := 30) S gf_X0_22 pf_X0_3 0 rfl rfl rfl (Nat.le_of_ble_eq_true rfl) rfl dX0_init_27 rfl ?_
  refine v_aload_n (pc2 := 31) S 0 dX0_init_30 rfl rfl rfl ?_
  refine v_iconst (v := 0) (pc2 := 32) S dX0_init_31 (by decide) rfl ?_
  refine v_put (ws2 := [(a0, .inr (0, [.ref q1, .ref q2, .int (0 : Int32), .int (0 : Int32), .int (0 : Int32), .int 0, .int 0])), (q1, .inl (G.2.1, 10, .inl (fun _ => 0))), (q2, .inl (G.2.1, 10, .inl (fun _ => 0)))]) (pc2 := 35) S gf_X0_25 pf_X0_4 0 rfl rfl rfl (Nat.le_of_ble_eq_true rfl) rfl dX0_init_32 rfl ?_
  refine v_aload_n (pc2 := 36) S 0 dX0_init_35 rfl rfl rfl ?_
  refine v_iconst (v := 0) (pc2 := 37) S dX0_init_36 (by decide) rfl ?_
  refine v_put (ws2 := [(a0, .inr (0, [.ref q1, .ref q2, .int (0 : Int32), .int (0 : Int32), .int (0 : Int32), .int (0 : Int32), .int 0])), (q1, .inl (G.2.1, 10, .inl (fun _ => 0))), (q2, .inl (G.2.1, 10, .inl (fun _ => 0)))]) (pc2 := 40) S gf_X0_28 pf_X0_5 0 rfl rfl rfl (Nat.le_of_ble_eq_true rfl) rfl dX0_init_37 rfl ?_
  refine v_aload_n (pc2 := 41) S 0 dX0_init_40 rfl rfl rfl ?_
  refine v_iconst (v := 0) (pc2 := 42) S dX0_init_41 (by decide) rfl ?_
  refine v_put (ws2 := [(a0, .inr (0, [.ref q1, .ref q2, .int (0 : Int32), .int (0 : Int32), .int (0 : Int32), .int (0 : Int32), .int (0 : Int32)])), (q1, .inl (G.2.1, 10, .inl (fun _ => 0))), (q2, .inl (G.2.1, 10, .inl (fun _ => 0)))]) (pc2 := 45) S gf_X0_31 pf_X0_6 0 rfl rfl rfl (Nat.le_of_ble_eq_true rfl) rfl dX0_init_42 rfl ?_
  refine v_to (wAc G (a0, q1, q2) (fun _ => 0) (fun _ => 0) (0 : Int32) (0 : Int32) (0 : Int32) (0 : Int32) (0 : Int32)) 45 [(0, .ref (((a0, q1, q2)).1))] _ [] rfl rfl rfl rfl ?_
  exact v_vret S ⟨((a0, q1, q2), ((fun _ => 0), (fun _ => 0), (0 : Int32), (0 : Int32), (0 : Int32), (0 : Int32), (0 : Int32))), rfl, rfl, rfl, hw⟩ dX0_init_45
set_option maxHeartbeats 4000000 in
set_option maxRecDepth 100000 in
theorem c_X0_copy (l : Launch) (G : GG) (a0 : AcA) (a1 : AcA) (v0 : AcV) (v1 : AcV) (Q : AcV → Prop) (hw : wp_X0_copy v0 v1 Q) : Con l G yX0_copy cX0_copy 2 none { frames := 1, cells := 0, slots := 0, locals := 60 } [.ref a0.1, .ref a1.1] (wAc G a0 v0.1 v0.2.1 v0.2.2.1 v0.2.2.2.1 v0.2.2.2.2.1 v0.2.2.2.2.2.1 v0.2.2.2.2.2.2 ++ wAc G a1 v1.1 v1.2.1 v1.2.2.1 v1.2.2.2.1 v1.2.2.2.2.1 v1.2.2.2.2.2.1 v1.2.2.2.2.2.2) (PV (fun u : AcV => wAc G a0 u.1 u.2.1 u.2.2.1 u.2.2.2.1 u.2.2.2.2.1 u.2.2.2.2.2.1 u.2.2.2.2.2.2 ++ wAc G a1 v1.1 v1.2.1 v1.2.2.1 v1.2.2.2.1 v1.2.2.2.2.1 v1.2.2.2.2.2.1 v1.2.2.2.2.2.2) Q) 0 0 := by
  refine con_of RX0 rfl (by decide) [(0, .ref a0.1), (1, .ref a1.1)] rfl (Nat.le_of_ble_eq_true rfl) ?_
  intro p e s m args below meth c S hname
  refine v_aload_n (pc2 := 1) S 1 dX0_copy_0 rfl rfl rfl ?_
  refine v_get (v := .ref a1.2.1) (pc2 := 4) S gf_X0_9 3 rfl rfl dX0_copy_1 rfl ?_
  refine v_iconst (v := 0) (pc2 := 5) S dX0_copy_4 (by decide) rfl ?_
  refine v_aload_n (pc2 := 6) S 0 dX0_copy_5 rfl rfl rfl ?_
  refine v_get (v := .ref a0.2.1) (pc2 := 9) S gf_X0_9 0 rfl rfl dX0_copy_6 rfl ?_
  refine v_iconst (v := 0) (pc2 := 10) S dX0_copy_9 (by decide) rfl ?_
  refine v_bipush (v := 10) (pc2 := 12) S dX0_copy_10 (by decide) rfl ?_
  obtain ⟨g1, eg1⟩ : ∃ y : Nat → Int32, y = va_cpy v1.1 v0.1 (0 : Int32).toNatClampNeg (0 : Int32).toNatClampNeg (10 : Int32).toNatClampNeg := ⟨_, rfl⟩
  have hw := hw g1 eg1
  refine v_copy (ws2 := wAc G a0 g1 v0.2.1 v0.2.2.1 v0.2.2.2.1 v0.2.2.2.2.1 v0.2.2.2.2.2.1 v0.2.2.2.2.2.2 ++ wAc G a1 v1.1 v1.2.1 v1.2.2.1 v1.2.2.2.1 v1.2.2.2.2.1 v1.2.2.2.2.2.1 v1.2.2.2.2.2.2) (pc2 := 15) S 4 1 u_459 u_449 u_448 u_30 rfl rfl (by decide) (by decide) (by decide) (by decide) (by decide) (Nat.le_of_ble_eq_true rfl) (by decide +kernel) (by rw [eg1] <;> rfl) dX0_copy_12 rfl ?_
  refine v_aload_n (pc2 := 16) S 1 dX0_copy_15 rfl rfl rfl ?_
  refine v_get (v := .ref a1.2.2) (pc2 := 19) S gf_X0_15 3 rfl rfl dX0_copy_16 rfl ?_
  refine v_iconst (v := 0) (pc2 := 20) S dX0_copy_19 (by decide) rfl ?_
  refine v_aload_n (pc2 := 21) S 0 dX0_copy_20 rfl rfl rfl ?_
  refine v_get (v := .ref a0.2.2) (pc2 := 24) S gf_X0_15 0 rfl rfl dX0_copy_21 rfl ?_
  refine v_iconst (v := 0) (pc2 := 25) S dX0_copy_24 (by decide) rfl ?_
  refine v_bipush (v := 10) (pc2 := 27) S dX0_copy_25 (by decide) rfl ?_
  obtain ⟨g2, eg2⟩ : ∃ y : Nat → Int32, y = va_cpy v1.2.1 v0.2.1 (0 : Int32).toNatClampNeg (0 : Int32).toNatClampNeg (10 : Int32).toNatClampNeg := ⟨_, rfl⟩
  have hw := hw g2 eg2
  refine v_copy (ws2 := wAc G a0 g1 g2 v0.2.2.1 v0.2.2.2.1 v0.2.2.2.2.1 v0.2.2.2.2.2.1 v0.2.2.2.2.2.2 ++ wAc G a1 v1.1 v1.2.1 v1.2.2.1 v1.2.2.2.1 v1.2.2.2.2.1 v1.2.2.2.2.2.1 v1.2.2.2.2.2.2) (pc2 := 30) S 5 2 u_459 u_449 u_448 u_30 rfl rfl (by decide) (by decide) (by decide) (by decide) (by decide) (Nat.le_of_ble_eq_true rfl) (by decide +kernel) (by rw [eg2] <;> rfl) dX0_copy_27 rfl ?_
  refine v_aload_n (pc2 := 31) S 0 dX0_copy_30 rfl rfl rfl ?_
  refine v_aload_n (pc2 := 32) S 1 dX0_copy_31 rfl rfl rfl ?_
  refine v_get (v := .int v1.2.2.1) (pc2 := 35) S gf_X0_18 3 rfl rfl dX0_copy_32 rfl ?_
  refine v_nm (fun z3 ez3 => ?_)
  have hw := hw z3 ez3
  refine v_put (ws2 := wAc G a0 g1 g2 z3 v0.2.2.2.1 v0.2.2.2.2.1 v0.2.2.2.2.2.1 v0.2.2.2.2.2.2 ++ wAc G a1 v1.1 v1.2.1 v1.2.2.1 v1.2.2.2.1 v1.2.2.2.2.1 v1.2.2.2.2.2.1 v1.2.2.2.2.2.2) (pc2 := 38) S gf_X0_18 pf_X0_2 0 rfl rfl rfl (Nat.le_of_ble_eq_true rfl) rfl dX0_copy_35 rfl ?_
  refine v_aload_n (pc2 := 39) S 0 dX0_copy_38 rfl rfl rfl ?_
  refine v_aload_n (pc2 := 40) S 1 dX0_copy_39 rfl rfl rfl ?_
  refine v_get (v := .int v1.2.2.2.1) (pc2 := 43) S gf_X0_22 3 rfl rfl dX0_copy_40 rfl ?_
  refine v_nm (fun z4 ez4 => ?_)
  have hw := hw z4 ez4
  refine v_put (ws2 := wAc G a0 g1 g2 z3 z4 v0.2.2.2.2.1 v0.2.2.2.2.2.1 v0.2.2.2.2.2.2 ++ wAc G a1 v1.1 v1.2.1 v1.2.2.1 v1.2.2.2.1 v1.2.2.2.2.1 v1.2.2.2.2.2.1 v1.2.2.2.2.2.2) (pc2 := 46) S gf_X0_22 pf_X0_3 0 rfl rfl rfl (Nat.le_of_ble_eq_true rfl) rfl dX0_copy_43 rfl ?_
  refine v_aload_n (pc2 := 47) S 0 dX0_copy_46 rfl rfl rfl ?_
  refine v_aload_n (pc2 := 48) S 1 dX0_copy_47 rfl rfl rfl ?_
  refine v_get (v := .int v1.2.2.2.2.1) (pc2 := 51) S gf_X0_25 3 rfl rfl dX0_copy_48 rfl ?_
  refine v_nm (fun z5 ez5 => ?_)
  have hw := hw z5 ez5
  refine v_put (ws2 := wAc G a0 g1 g2 z3 z4 z5 v0.2.2.2.2.2.1 v0.2.2.2.2.2.2 ++ wAc G a1 v1.1 v1.2.1 v1.2.2.1 v1.2.2.2.1 v1.2.2.2.2.1 v1.2.2.2.2.2.1 v1.2.2.2.2.2.2) (pc2 := 54) S gf_X0_25 pf_X0_4 0 rfl rfl rfl (Nat.le_of_ble_eq_true rfl) rfl dX0_copy_51 rfl ?_
  refine v_aload_n (pc2 := 55) S 0 dX0_copy_54 rfl rfl rfl ?_
  refine v_aload_n (pc2 := 56) S 1 dX0_copy_55 rfl rfl rfl ?_
  refine v_get (v := .int v1.2.2.2.2.2.1) (pc2 := 59) S gf_X0_28 3 rfl rfl dX0_copy_56 rfl ?_
  refine v_nm (fun z6 ez6 => ?_)
  have hw := hw z6 ez6
  refine v_put (ws2 := wAc G a0 g1 g2 z3 z4 z5 z6 v0.2.2.2.2.2.2 ++ wAc G a1 v1.1 v1.2.1 v1.2.2.1 v1.2.2.2.1 v1.2.2.2.2.1 v1.2.2.2.2.2.1 v1.2.2.2.2.2.2) (pc2 := 62) S gf_X0_28 pf_X0_5 0 rfl rfl rfl (Nat.le_of_ble_eq_true rfl) rfl dX0_copy_59 rfl ?_
  refine v_aload_n (pc2 := 63) S 0 dX0_copy_62 rfl rfl rfl ?_
  refine v_aload_n (pc2 := 64) S 1 dX0_copy_63 rfl rfl rfl ?_
  refine v_get (v := .int v1.2.2.2.2.2.2) (pc2 := 67) S gf_X0_31 3 rfl rfl dX0_copy_64 rfl ?_
  refine v_nm (fun z7 ez7 => ?_)
  have hw := hw z7 ez7
  refine v_put (ws2 := wAc G a0 g1 g2 z3 z4 z5 z6 z7 ++ wAc G a1 v1.1 v1.2.1 v1.2.2.1 v1.2.2.2.1 v1.2.2.2.2.1 v1.2.2.2.2.2.1 v1.2.2.2.2.2.2) (pc2 := 70) S gf_X0_31 pf_X0_6 0 rfl rfl rfl (Nat.le_of_ble_eq_true rfl) rfl dX0_copy_67 rfl ?_
  exact v_vret S ⟨(g1, g2, z3, z4, z5, z6, z7), rfl, rfl, hw⟩ dX0_copy_70
set_option maxHeartbeats 4000000 in
set_option maxRecDepth 100000 in
theorem c_X0_noteOpened (l : Launch) (G : GG) (a0 : AcA) (v0 : AcV) (i0 : Int32) (Q : AcV → Prop) (hw : wp_X0_noteOpened v0 i0 Q) : Con l G yX0_noteOpened cX0_noteOpened 2 none { frames := 0, cells := 0, slots := 0, locals := 0 } [.ref a0.1, .int i0] (wAc G a0 v0.1 v0.2.1 v0.2.2.1 v0.2.2.2.1 v0.2.2.2.2.1 v0.2.2.2.2.2.1 v0.2.2.2.2.2.2) (PV (fun u : AcV => wAc G a0 u.1 u.2.1 u.2.2.1 u.2.2.2.1 u.2.2.2.2.1 u.2.2.2.2.2.1 u.2.2.2.2.2.2) Q) 0 0 := by
  refine con_of RX0 rfl (by decide) [(0, .ref a0.1), (1, .int i0)] rfl (Nat.le_of_ble_eq_true rfl) ?_
  intro p e s m args below meth c S hname
  refine v_aload_n (pc2 := 1) S 0 dX0_noteOpened_0 rfl rfl rfl ?_
  refine v_get (v := .ref a0.2.1) (pc2 := 4) S gf_X0_9 0 rfl rfl dX0_noteOpened_1 rfl ?_
  refine v_iload_n (pc2 := 5) S 1 dX0_noteOpened_4 rfl rfl rfl ?_
  refine v_dup2 (pc2 := 6) S dX0_noteOpened_5 rfl rfl rfl ?_
  obtain ⟨h1, hw⟩ := hw
  refine v_iald (pc2 := 7) S 1 rfl h1 dX0_noteOpened_6 rfl ?_
  refine v_iconst (v := 1) (pc2 := 8) S dX0_noteOpened_7 (by decide) rfl ?_
  refine v_iadd (pc2 := 9) S dX0_noteOpened_8 rfl ?_
  obtain ⟨h2, hw⟩ := hw
  obtain ⟨g3, eg3⟩ : ∃ y : Nat → Int32, y = upd v0.1 i0.toNatClampNeg ((v0.1 i0.toNatClampNeg) + (1 : Int32)) := ⟨_, rfl⟩
  have hw := hw g3 eg3
  refine v_iast (ws2 := wAc G a0 g3 v0.2.1 v0.2.2.1 v0.2.2.2.1 v0.2.2.2.2.1 v0.2.2.2.2.2.1 v0.2.2.2.2.2.2) (pc2 := 10) S 1 rfl h2 (by rw [eg3] <;> rfl) dX0_noteOpened_9 rfl ?_
  refine v_aload_n (pc2 := 11) S 0 dX0_noteOpened_10 rfl rfl rfl ?_
  refine v_dup (pc2 := 12) S dX0_noteOpened_11 rfl rfl ?_
  refine v_get (v := .int v0.2.2.1) (pc2 := 15) S gf_X0_18 0 rfl rfl dX0_noteOpened_12 rfl ?_
  refine v_iconst (v := 1) (pc2 := 16) S dX0_noteOpened_15 (by decide) rfl ?_
  refine v_iadd (pc2 := 17) S dX0_noteOpened_16 rfl ?_
  refine v_nm (fun z4 ez4 => ?_)
  have hw := hw z4 ez4
  refine v_put (ws2 := wAc G a0 g3 v0.2.1 z4 v0.2.2.2.1 v0.2.2.2.2.1 v0.2.2.2.2.2.1 v0.2.2.2.2.2.2) (pc2 := 20) S gf_X0_18 pf_X0_2 0 rfl rfl rfl (Nat.le_of_ble_eq_true rfl) rfl dX0_noteOpened_17 rfl ?_
  exact v_vret S ⟨(g3, v0.2.1, z4, v0.2.2.2.1, v0.2.2.2.2.1, v0.2.2.2.2.2.1, v0.2.2.2.2.2.2), rfl, rfl, hw⟩ dX0_noteOpened_20
set_option maxHeartbeats 4000000 in
set_option maxRecDepth 100000 in
theorem c_X0_noteShutByHand (l : Launch) (G : GG) (a0 : AcA) (v0 : AcV) (i0 : Int32) (Q : AcV → Prop) (hw : wp_X0_noteShutByHand v0 i0 Q) : Con l G yX0_noteShutByHand cX0_noteShutByHand 2 none { frames := 0, cells := 0, slots := 0, locals := 0 } [.ref a0.1, .int i0] (wAc G a0 v0.1 v0.2.1 v0.2.2.1 v0.2.2.2.1 v0.2.2.2.2.1 v0.2.2.2.2.2.1 v0.2.2.2.2.2.2) (PV (fun u : AcV => wAc G a0 u.1 u.2.1 u.2.2.1 u.2.2.2.1 u.2.2.2.2.1 u.2.2.2.2.2.1 u.2.2.2.2.2.2) Q) 0 0 := by
  refine con_of RX0 rfl (by decide) [(0, .ref a0.1), (1, .int i0)] rfl (Nat.le_of_ble_eq_true rfl) ?_
  intro p e s m args below meth c S hname
  refine v_aload_n (pc2 := 1) S 0 dX0_noteShutByHand_0 rfl rfl rfl ?_
  refine v_get (v := .ref a0.2.2) (pc2 := 4) S gf_X0_15 0 rfl rfl dX0_noteShutByHand_1 rfl ?_
  refine v_iload_n (pc2 := 5) S 1 dX0_noteShutByHand_4 rfl rfl rfl ?_
  refine v_dup2 (pc2 := 6) S dX0_noteShutByHand_5 rfl rfl rfl ?_
  obtain ⟨h1, hw⟩ := hw
  refine v_iald (pc2 := 7) S 2 rfl h1 dX0_noteShutByHand_6 rfl ?_
  refine v_iconst (v := 1) (pc2 := 8) S dX0_noteShutByHand_7 (by decide) rfl ?_
  refine v_iadd (pc2 := 9) S dX0_noteShutByHand_8 rfl ?_
  obtain ⟨h2, hw⟩ := hw
  obtain ⟨g3, eg3⟩ : ∃ y : Nat → Int32, y = upd v0.2.1 i0.toNatClampNeg ((v0.2.1 i0.toNatClampNeg) + (1 : Int32)) := ⟨_, rfl⟩
  have hw := hw g3 eg3
  refine v_iast (ws2 := wAc G a0 v0.1 g3 v0.2.2.1 v0.2.2.2.1 v0.2.2.2.2.1 v0.2.2.2.2.2.1 v0.2.2.2.2.2.2) (pc2 := 10) S 2 rfl h2 (by rw [eg3] <;> rfl) dX0_noteShutByHand_9 rfl ?_
  refine v_aload_n (pc2 := 11) S 0 dX0_noteShutByHand_10 rfl rfl rfl ?_
  refine v_dup (pc2 := 12) S dX0_noteShutByHand_11 rfl rfl ?_
  refine v_get (v := .int v0.2.2.2.1) (pc2 := 15) S gf_X0_22 0 rfl rfl dX0_noteShutByHand_12 rfl ?_
  refine v_iconst (v := 1) (pc2 := 16) S dX0_noteShutByHand_15 (by decide) rfl ?_
  refine v_iadd (pc2 := 17) S dX0_noteShutByHand_16 rfl ?_
  refine v_nm (fun z4 ez4 => ?_)
  have hw := hw z4 ez4
  refine v_put (ws2 := wAc G a0 v0.1 g3 v0.2.2.1 z4 v0.2.2.2.2.1 v0.2.2.2.2.2.1 v0.2.2.2.2.2.2) (pc2 := 20) S gf_X0_22 pf_X0_3 0 rfl rfl rfl (Nat.le_of_ble_eq_true rfl) rfl dX0_noteShutByHand_17 rfl ?_
  exact v_vret S ⟨(v0.1, g3, v0.2.2.1, z4, v0.2.2.2.2.1, v0.2.2.2.2.2.1, v0.2.2.2.2.2.2), rfl, rfl, hw⟩ dX0_noteShutByHand_20
set_option maxHeartbeats 4000000 in
set_option maxRecDepth 100000 in
theorem c_X0_noteShutByOpening (l : Launch) (G : GG) (a0 : AcA) (v0 : AcV) (i0 : Int32) (i1 : Int32) (Q : AcV → Prop) (hw : wp_X0_noteShutByOpening v0 i0 i1 Q) : Con l G yX0_noteShutByOpening cX0_noteShutByOpening 4 none { frames := 1, cells := 0, slots := 0, locals := 21 } [.ref a0.1, .int i0, .int i1] (wAc G a0 v0.1 v0.2.1 v0.2.2.1 v0.2.2.2.1 v0.2.2.2.2.1 v0.2.2.2.2.2.1 v0.2.2.2.2.2.2) (PV (fun u : AcV => wAc G a0 u.1 u.2.1 u.2.2.1 u.2.2.2.1 u.2.2.2.2.1 u.2.2.2.2.2.1 u.2.2.2.2.2.2) Q) 0 0 := by
  refine con_of RX0 rfl (by decide) [(0, .ref a0.1), (1, .int i0), (2, .int i1)] rfl (Nat.le_of_ble_eq_true rfl) ?_
  intro p e s m args below meth c S hname
  have L28 : ∀ (x1 : Int32) (x2 : Int32) (kk : Nat) (x3 : Int32) (w0 : AcV), wp_X0_noteShutByOpening_L28 x1 x2 Q kk x3 w0 → V p l e { frames := 1, cells := 0, slots := 0, locals := 21 } s m args below meth c G (va_A (wAc G a0 v0.1 v0.2.1 v0.2.2.1 v0.2.2.2.1 v0.2.2.2.2.1 v0.2.2.2.2.2.1 v0.2.2.2.2.2.2) s.heap.size) 4 0 0 (MQ below (EQ G (wAc G a0 v0.1 v0.2.1 v0.2.2.1 v0.2.2.2.1 v0.2.2.2.2.1 v0.2.2.2.2.2.1 v0.2.2.2.2.2.2) s.heap.size (PV (fun u : AcV => wAc G a0 u.1 u.2.1 u.2.2.1 u.2.2.2.1 u.2.2.2.2.1 u.2.2.2.2.2.1 u.2.2.2.2.2.2) Q)) args s 0 0 (va_A (wAc G a0 v0.1 v0.2.1 v0.2.2.1 v0.2.2.2.1 v0.2.2.2.2.1 v0.2.2.2.2.2.1 v0.2.2.2.2.2.2) s.heap.size)) (wAc G a0 w0.1 w0.2.1 w0.2.2.1 w0.2.2.2.1 w0.2.2.2.2.1 w0.2.2.2.2.2.1 w0.2.2.2.2.2.2) 28 [(0, .ref a0.1), (1, .int x1), (2, .int x2), (3, .int x3)] [] := by
    intro x1 x2 kk
    induction kk with
    | zero => intro x3 w0 hw; exact hw.elim
    | succ n ih =>
      intro x3 w0 hw
      refine v_iload_n (pc2 := 29) S 3 dX0_noteShutByOpening_28 rfl rfl rfl ?_
      refine v_bipush (v := 10) (pc2 := 31) S dX0_noteShutByOpening_29 (by decide) rfl ?_
      refine v_icmp_ge (pc2 := 34) (tgt := 60) S dX0_noteShutByOpening_31 (by decide) rfl (fun c7 => ?_) (fun c7 => ?_)
      · have hw := hw.1 c7
        exact v_vret S ⟨w0, rfl, rfl, hw⟩ dX0_noteShutByOpening_60
      · have hw := hw.2 c7
        refine v_iload_n (pc2 := 35) S 1 dX0_noteShutByOpening_34 rfl rfl rfl ?_
        refine v_iload_n (pc2 := 36) S 2 dX0_noteShutByOpening_35 rfl rfl rfl ?_
        refine v_ior (pc2 := 37) S dX0_noteShutByOpening_36 rfl ?_
        refine v_iload_n (pc2 := 38) S 3 dX0_noteShutByOpening_37 rfl rfl rfl ?_
        refine v_callSN (pc2 := 41) (As := [.int (x1 ||| x2), .int x3]) (rest := []) S (c_X8_has l G (x1 ||| x2) x3 _ hw) mf_X8_has u_570 u_276 rfl rfl ⟨rfl, rfl⟩ ⟨Nat.le_of_ble_eq_true rfl, Nat.le_of_ble_eq_true rfl⟩ ⟨Nat.le_of_ble_eq_true rfl, Nat.le_of_ble_eq_true rfl⟩ (Nat.le_of_ble_eq_true rfl) dX0_noteShutByOpening_38 (frM [] [] _) rfl (pb (fun r8 u9 br8 hw => ?_))
        refine v_to (wAc G a0 w0.1 w0.2.1 w0.2.2.1 w0.2.2.2.1 w0.2.2.2.2.1 w0.2.2.2.2.2.1 w0.2.2.2.2.2.2) 41 [(0, .ref a0.1), (1, .int x1), (2, .int x2), (3, .int x3)] _ [.int r8] rfl rfl rfl rfl ?_
        refine v_if_eq (pc2 := 44) (tgt := 54) S dX0_noteShutByOpening_41 (by decide) rfl (fun c10 => ?_) (fun c10 => ?_)
        · have hw := hw.1 c10
          obtain ⟨z11, ez11⟩ : ∃ y : Int32, y = x3 + (1 : Int32) := ⟨_, rfl⟩
          have hw := hw z11 ez11
          refine v_iinc (v := z11) (lv2 := [(0, .ref a0.1), (1, .int x1), (2, .int x2), (3, .int z11)]) (pc2 := 57) S 3 dX0_noteShutByOpening_54 rfl (by rw [ez11]; rfl) (by decide) [1, 2, 3, 0] rfl rfl ?_
          refine v_goto (tgt := 28) S dX0_noteShutByOpening_57 (by decide) ?_
          exact ih z11 w0 hw
        · have hw := hw.2 c10
          refine v_aload_n (pc2 := 45) S 0 dX0_noteShutByOpening_44 rfl rfl rfl ?_
          refine v_get (v := .ref a0.2.2) (pc2 := 48) S gf_X0_15 0 rfl rfl dX0_noteShutByOpening_45 rfl ?_
          refine v_iload_n (pc2 := 49) S 3 dX0_noteShutByOpening_48 rfl rfl rfl ?_
          refine v_dup2 (pc2 := 50) S dX0_noteShutByOpening_49 rfl rfl rfl ?_
          obtain ⟨h12, hw⟩ := hw
          refine v_iald (pc2 := 51) S 2 rfl h12 dX0_noteShutByOpening_50 rfl ?_
          refine v_iconst (v := 1) (pc2 := 52) S dX0_noteShutByOpening_51 (by decide) rfl ?_
          refine v_iadd (pc2 := 53) S dX0_noteShutByOpening_52 rfl ?_
          obtain ⟨h13, hw⟩ := hw
          obtain ⟨g14, eg14⟩ : ∃ y : Nat → Int32, y = upd w0.2.1 x3.toNatClampNeg ((w0.2.1 x3.toNatClampNeg) + (1 : Int32)) := ⟨_, rfl⟩
          have hw := hw g14 eg14
          refine v_iast (ws2 := wAc G a0 w0.1 g14 w0.2.2.1 w0.2.2.2.1 w0.2.2.2.2.1 w0.2.2.2.2.2.1 w0.2.2.2.2.2.2) (pc2 := 54) S 2 rfl h13 (by rw [eg14] <;> rfl) dX0_noteShutByOpening_53 rfl ?_
          obtain ⟨z15, ez15⟩ : ∃ y : Int32, y = x3 + (1 : Int32) := ⟨_, rfl⟩
          have hw := hw z15 ez15
          refine v_iinc (v := z15) (lv2 := [(0, .ref a0.1), (1, .int x1), (2, .int x2), (3, .int z15)]) (pc2 := 57) S 3 dX0_noteShutByOpening_54 rfl (by rw [ez15]; rfl) (by decide) [1, 2, 3, 0] rfl rfl ?_
          refine v_goto (tgt := 28) S dX0_noteShutByOpening_57 (by decide) ?_
          exact ih z15 (w0.1, g14, w0.2.2.1, w0.2.2.2.1, w0.2.2.2.2.1, w0.2.2.2.2.2.1, w0.2.2.2.2.2.2) hw
  refine v_aload_n (pc2 := 1) S 0 dX0_noteShutByOpening_0 rfl rfl rfl ?_
  refine v_dup (pc2 := 2) S dX0_noteShutByOpening_1 rfl rfl ?_
  refine v_get (v := .int v0.2.2.2.2.1) (pc2 := 5) S gf_X0_25 0 rfl rfl dX0_noteShutByOpening_2 rfl ?_
  refine v_iload_n (pc2 := 6) S 1 dX0_noteShutByOpening_5 rfl rfl rfl ?_
  refine v_callS (pc2 := 9) (As := [.int i0]) (rest := [.int v0.2.2.2.2.1, .ref a0.1]) S (c_J6_bitCount_0f7a4 l G i0 _ hw) mf_J6_bitCount_0f7a4 u_569 u_312 rfl rfl ⟨rfl, rfl⟩ ⟨Nat.le_of_ble_eq_true rfl, Nat.le_of_ble_eq_true rfl⟩ ⟨Nat.le_of_ble_eq_true rfl, Nat.le_of_ble_eq_true rfl⟩ (Nat.le_of_ble_eq_true rfl) dX0_noteShutByOpening_6 (frM [] [] _) rfl (pi (fun r1 u2 hw => ?_))
  refine v_to (wAc G a0 v0.1 v0.2.1 v0.2.2.1 v0.2.2.2.1 v0.2.2.2.2.1 v0.2.2.2.2.2.1 v0.2.2.2.2.2.2) 9 [(0, .ref a0.1), (1, .int i0), (2, .int i1)] _ [.int r1, .int v0.2.2.2.2.1, .ref a0.1] rfl rfl rfl rfl ?_
  refine v_iadd (pc2 := 10) S dX0_noteShutByOpening_9 rfl ?_
  refine v_nm (fun z3 ez3 => ?_)
  have hw := hw z3 ez3
  refine v_put (ws2 := wAc G a0 v0.1 v0.2.1 v0.2.2.1 v0.2.2.2.1 z3 v0.2.2.2.2.2.1 v0.2.2.2.2.2.2) (pc2 := 13) S gf_X0_25 pf_X0_4 0 rfl rfl rfl (Nat.le_of_ble_eq_true rfl) rfl dX0_noteShutByOpening_10 rfl ?_
  refine v_aload_n (pc2 := 14) S 0 dX0_noteShutByOpening_13 rfl rfl rfl ?_
  refine v_dup (pc2 := 15) S dX0_noteShutByOpening_14 rfl rfl ?_
  refine v_get (v := .int v0.2.2.2.2.2.1) (pc2 := 18) S gf_X0_28 0 rfl rfl dX0_noteShutByOpening_15 rfl ?_
  refine v_iload_n (pc2 := 19) S 2 dX0_noteShutByOpening_18 rfl rfl rfl ?_
  refine v_callS (pc2 := 22) (As := [.int i1]) (rest := [.int v0.2.2.2.2.2.1, .ref a0.1]) S (c_J6_bitCount_0f7a4 l G i1 _ hw) mf_J6_bitCount_0f7a4 u_569 u_312 rfl rfl ⟨rfl, rfl⟩ ⟨Nat.le_of_ble_eq_true rfl, Nat.le_of_ble_eq_true rfl⟩ ⟨Nat.le_of_ble_eq_true rfl, Nat.le_of_ble_eq_true rfl⟩ (Nat.le_of_ble_eq_true rfl) dX0_noteShutByOpening_19 (frM [] [] _) rfl (pi (fun r4 u5 hw => ?_))
  refine v_to (wAc G a0 v0.1 v0.2.1 v0.2.2.1 v0.2.2.2.1 z3 v0.2.2.2.2.2.1 v0.2.2.2.2.2.2) 22 [(0, .ref a0.1), (1, .int i0), (2, .int i1)] _ [.int r4, .int v0.2.2.2.2.2.1, .ref a0.1] rfl rfl rfl rfl ?_
  refine v_iadd (pc2 := 23) S dX0_noteShutByOpening_22 rfl ?_
  refine v_nm (fun z6 ez6 => ?_)
  have hw := hw z6 ez6
  refine v_put (ws2 := wAc G a0 v0.1 v0.2.1 v0.2.2.1 v0.2.2.2.1 z3 z6 v0.2.2.2.2.2.2) (pc2 := 26) S gf_X0_28 pf_X0_5 0 rfl rfl rfl (Nat.le_of_ble_eq_true rfl) rfl dX0_noteShutByOpening_23 rfl ?_
  refine v_iconst (v := 0) (pc2 := 27) S dX0_noteShutByOpening_26 (by decide) rfl ?_
  refine v_istore_n (lv2 := [(0, .ref a0.1), (1, .int i0), (2, .int i1), (3, .int (0 : Int32))]) (pc2 := 28) S dX0_noteShutByOpening_27 rfl (by decide) [1, 2, 3, 0] rfl rfl ?_
  obtain ⟨kk, hw⟩ := hw
  exact L28 i0 i1 kk (0 : Int32) (v0.1, v0.2.1, v0.2.2.1, v0.2.2.2.1, z3, z6, v0.2.2.2.2.2.2) hw
set_option maxHeartbeats 4000000 in
set_option maxRecDepth 100000 in
theorem c_X0_noteRefused (l : Launch) (G : GG) (a0 : AcA) (v0 : AcV) (i0 : Int32) (Q : Int32 → AcV → Prop) (hw : wp_X0_noteRefused v0 i0 Q) : Con l G yX0_noteRefused cX0_noteRefused 2 (some .int) { frames := 0, cells := 0, slots := 0, locals := 0 } [.ref a0.1, .int i0] (wAc G a0 v0.1 v0.2.1 v0.2.2.1 v0.2.2.2.1 v0.2.2.2.2.1 v0.2.2.2.2.2.1 v0.2.2.2.2.2.2) (PI (fun u : AcV => wAc G a0 u.1 u.2.1 u.2.2.1 u.2.2.2.1 u.2.2.2.2.1 u.2.2.2.2.2.1 u.2.2.2.2.2.2) Q) 0 0 := by
  refine con_of RX0 rfl (by decide) [(0, .ref a0.1), (1, .int i0)] rfl (Nat.le_of_ble_eq_true rfl) ?_
  intro p e s m args below meth c S hname
  refine v_aload_n (pc2 := 1) S 0 dX0_noteRefused_0 rfl rfl rfl ?_
  refine v_dup (pc2 := 2) S dX0_noteRefused_1 rfl rfl ?_
  refine v_get (v := .int v0.2.2.2.2.2.2) (pc2 := 5) S gf_X0_31 0 rfl rfl dX0_noteRefused_2 rfl ?_
  refine v_iconst (v := 1) (pc2 := 6) S dX0_noteRefused_5 (by decide) rfl ?_
  refine v_iadd (pc2 := 7) S dX0_noteRefused_6 rfl ?_
  refine v_nm (fun z1 ez1 => ?_)
  have hw := hw z1 ez1
  refine v_put (ws2 := wAc G a0 v0.1 v0.2.1 v0.2.2.1 v0.2.2.2.1 v0.2.2.2.2.1 v0.2.2.2.2.2.1 z1) (pc2 := 10) S gf_X0_31 pf_X0_6 0 rfl rfl rfl (Nat.le_of_ble_eq_true rfl) rfl dX0_noteRefused_7 rfl ?_
  refine v_iload_n (pc2 := 11) S 1 dX0_noteRefused_10 rfl rfl rfl ?_
  exact v_iret S ⟨i0, (v0.1, v0.2.1, v0.2.2.1, v0.2.2.2.1, v0.2.2.2.2.1, v0.2.2.2.2.2.1, z1), rfl, rfl, hw⟩ dX0_noteRefused_11
set_option maxHeartbeats 4000000 in
set_option maxRecDepth 100000 in
theorem c_X1_init (l : Launch) (G : GG) (a0 : Nat) (Q : GuV → Prop) (hw : wp_X1_init Q) : Con l G yX1_init cX1_init 1 none { frames := 1, cells := 3, slots := 9, locals := 20 } [.ref a0] [(a0, .inr (1, [.null, .null, .null]))] (PV (fun u : GuA × GuV => wGu G u.1 u.2.1 u.2.2.1 u.2.2.2) (fun u => u.1.1 = a0 ∧ Q u.2)) 3 9 := by
  refine con_of RX1 rfl (by decide) [(0, .ref a0)] rfl (Nat.le_of_ble_eq_true rfl) ?_
  intro p e s m args below meth c S hname
  refine v_aload_n (pc2 := 1) S 0 dX1_init_0 rfl rfl rfl ?_
  refine v_objInit (pc2 := 4) S u_92 u_39 u_40 (Nat.le_of_ble_eq_true rfl) (Nat.le_of_ble_eq_true rfl) dX1_init_1 rfl ?_
  refine v_aload_n (pc2 := 5) S 0 dX1_init_4 rfl rfl rfl ?_
  refine v_iconst (v := 3) (pc2 := 6) S dX1_init_5 (by decide) rfl ?_
  refine v_newa (pc2 := 8) (N := 3) S u_86 (by decide) (by decide) (Nat.le_of_ble_eq_true rfl) (Nat.le_of_ble_eq_true rfl) (Nat.le_of_ble_eq_true rfl) dX1_init_6 rfl (fun q1 => ?_)
  refine v_to ([(a0, .inr (1, [.null, .null, .null])), (q1, .inl (G.2.1, 3, .inl (fun _ => 0)))]) 8 [(0, .ref a0)] _ [.ref q1, .ref a0] rfl rfl rfl rfl ?_
  refine v_putF (ws2 := [(a0, .inr (1, [.ref q1, .null, .null])), (q1, .inl (G.2.1, 3, .inl (fun _ => 0)))]) (pc2 := 11) S (show meth.name = "<init>" from hname) gf_X1_9 pf_X1_0 rfl 0 rfl rfl rfl (Nat.le_of_ble_eq_true rfl) rfl dX1_init_8 rfl ?_
  refine v_aload_n (pc2 := 12) S 0 dX1_init_11 rfl rfl rfl ?_
  refine v_iconst (v := 3) (pc2 := 13) S dX1_init_12 (by decide) rfl ?_
  refine v_newa (pc2 := 15) (N := 3) S u_86 (by decide) (by decide) (Nat.le_of_ble_eq_true rfl) (Nat.le_of_ble_eq_true rfl) (Nat.le_of_ble_eq_true rfl) dX1_init_13 rfl (fun q2 => ?_)
  refine v_to ([(a0, .inr (1, [.ref q1, .null, .null])), (q1, .inl (G.2.1, 3, .inl (fun _ => 0))), (q2, .inl (G.2.1, 3, .inl (fun _ => 0)))]) 15 [(0, .ref a0)] _ [.ref q2, .ref a0] rfl rfl rfl rfl ?_
  refine v_putF (ws2 := [(a0, .inr (1, [.ref q1, .ref q2, .null])), (q1, .inl (G.2.1, 3, .inl (fun _ => 0))), (q2, .inl (G.2.1, 3, .inl (fun _ => 0)))]) (pc2 := 18) S (show meth.name = "<init>" from hname) gf_X1_15 pf_X1_1 rfl 0 rfl rfl rfl (Nat.le_of_ble_eq_true rfl) rfl dX1_init_15 rfl ?_
  refine v_aload_n (pc2 := 19) S 0 dX1_init_18 rfl rfl rfl ?_
  refine v_iconst (v := 3) (pc2 := 20) S dX1_init_19 (by decide) rfl ?_
  refine v_newa (pc2 := 22) (N := 3) S u_86 (by decide) (by decide) (Nat.le_of_ble_eq_true rfl) (Nat.le_of_ble_eq_true rfl) (Nat.le_of_ble_eq_true rfl) dX1_init_20 rfl (fun q3 => ?_)
  refine v_to ([(a0, .inr (1, [.ref q1, .ref q2, .null])), (q1, .inl (G.2.1, 3, .inl (fun _ => 0))), (q2, .inl (G.2.1, 3, .inl (fun _ => 0))), (q3, .inl (G.2.1, 3, .inl (fun _ => 0)))]) 22 [(0, .ref a0)] _ [.ref q3, .ref a0] rfl rfl rfl rfl ?_
  refine v_putF (ws2 := [(a0, .inr (1, [.ref q1, .ref q2, .ref q3])), (q1, .inl (G.2.1, 3, .inl (fun _ => 0))), (q2, .inl (G.2.1, 3, .inl (fun _ => 0))), (q3, .inl (G.2.1, 3, .inl (fun _ => 0)))]) (pc2 := 25) S (show meth.name = "<init>" from hname) gf_X1_18 pf_X1_2 rfl 0 rfl rfl rfl (Nat.le_of_ble_eq_true rfl) rfl dX1_init_22 rfl ?_
  refine v_to (wGu G (a0, q1, q2, q3) (fun _ => 0) (fun _ => 0) (fun _ => 0)) 25 [(0, .ref (((a0, q1, q2, q3)).1))] _ [] rfl rfl rfl rfl ?_
  exact v_vret S ⟨((a0, q1, q2, q3), ((fun _ => 0), (fun _ => 0), (fun _ => 0))), rfl, rfl, rfl, hw⟩ dX1_init_25
set_option maxHeartbeats 4000000 in
set_option maxRecDepth 100000 in
theorem c_X1_copy (l : Launch) (G : GG) (a0 : GuA) (a1 : GuA) (v0 : GuV) (v1 : GuV) (Q : GuV → Prop) (hw : wp_X1_copy v0 v1 Q) : Con l G yX1_copy cX1_copy 2 none { frames := 1, cells := 0, slots := 0, locals := 60 } [.ref a0.1, .ref a1.1] (wGu G a0 v0.1 v0.2.1 v0.2.2 ++ wGu G a1 v1.1 v1.2.1 v1.2.2) (PV (fun u : GuV => wGu G a0 u.1 u.2.1 u.2.2 ++ wGu G a1 v1.1 v1.2.1 v1.2.2) Q) 0 0 := by
  refine con_of RX1 rfl (by decide) [(0, .ref a0.1), (1, .ref a1.1)] rfl (Nat.le_of_ble_eq_true rfl) ?_
  intro p e s m args below meth c S hname
  refine v_aload_n (pc2 := 1) S 1 dX1_copy_0 rfl rfl rfl ?_
  refine v_get (v := .ref a1.2.1) (pc2 := 4) S gf_X1_9 4 rfl rfl dX1_copy_1 rfl ?_
  refine v_iconst (v := 0) (pc2 := 5) S dX1_copy_4 (by decide) rfl ?_
  refine v_aload_n (pc2 := 6) S 0 dX1_copy_5 rfl rfl rfl ?_
  refine v_get (v := .ref a0.2.1) (pc2 := 9) S gf_X1_9 0 rfl rfl dX1_copy_6 rfl ?_
  refine v_iconst (v := 0) (pc2 := 10) S dX1_copy_9 (by decide) rfl ?_
  refine v_iconst (v := 3) (pc2 := 11) S dX1_copy_10 (by decide) rfl ?_
  obtain ⟨g1, eg1⟩ : ∃ y : Nat → Int32, y = va_cpy v1.1 v0.1 (0 : Int32).toNatClampNeg (0 : Int32).toNatClampNeg (3 : Int32).toNatClampNeg := ⟨_, rfl⟩
  have hw := hw g1 eg1
  refine v_copy (ws2 := wGu G a0 g1 v0.2.1 v0.2.2 ++ wGu G a1 v1.1 v1.2.1 v1.2.2) (pc2 := 14) S 5 1 u_454 u_449 u_448 u_30 rfl rfl (by decide) (by decide) (by decide) (by decide) (by decide) (Nat.le_of_ble_eq_true rfl) (by decide +kernel) (by rw [eg1] <;> rfl) dX1_copy_11 rfl ?_
  refine v_aload_n (pc2 := 15) S 1 dX1_copy_14 rfl rfl rfl ?_
  refine v_get (v := .ref a1.2.2.1) (pc2 := 18) S gf_X1_15 4 rfl rfl dX1_copy_15 rfl ?_
  refine v_iconst (v := 0) (pc2 := 19) S dX1_copy_18 (by decide) rfl ?_
  refine v_aload_n (pc2 := 20) S 0 dX1_copy_19 rfl rfl rfl ?_
  refine v_get (v := .ref a0.2.2.1) (pc2 := 23) S gf_X1_15 0 rfl rfl dX1_copy_20 rfl ?_
  refine v_iconst (v := 0) (pc2 := 24) S dX1_copy_23 (by decide) rfl ?_
  refine v_iconst (v := 3) (pc2 := 25) S dX1_copy_24 (by decide) rfl ?_
  obtain ⟨g2, eg2⟩ : ∃ y : Nat → Int32, y = va_cpy v1.2.1 v0.2.1 (0 : Int32).toNatClampNeg (0 : Int32).toNatClampNeg (3 : Int32).toNatClampNeg := ⟨_, rfl⟩
  have hw := hw g2 eg2
  refine v_copy (ws2 := wGu G a0 g1 g2 v0.2.2 ++ wGu G a1 v1.1 v1.2.1 v1.2.2) (pc2 := 28) S 6 2 u_454 u_449 u_448 u_30 rfl rfl (by decide) (by decide) (by decide) (by decide) (by decide) (Nat.le_of_ble_eq_true rfl) (by decide +kernel) (by rw [eg2] <;> rfl) dX1_copy_25 rfl ?_
  refine v_aload_n (pc2 := 29) S 1 dX1_copy_28 rfl rfl rfl ?_
  refine v_get (v := .ref a1.2.2.2) (pc2 := 32) S gf_X1_18 4 rfl rfl dX1_copy_29 rfl ?_
  refine v_iconst (v := 0) (pc2 := 33) S dX1_copy_32 (by decide) rfl ?_
  refine v_aload_n (pc2 := 34) S 0 dX1_copy_33 rfl rfl rfl ?_
  refine v_get (v := .ref a0.2.2.2) (pc2 := 37) S gf_X1_18 0 rfl rfl dX1_copy_34 rfl ?_
  refine v_iconst (v := 0) (pc2 := 38) S dX1_copy_37 (by decide) rfl ?_
  refine v_iconst (v := 3) (pc2 := 39) S dX1_copy_38 (by decide) rfl ?_
  obtain ⟨g3, eg3⟩ : ∃ y : Nat → Int32, y = va_cpy v1.2.2 v0.2.2 (0 : Int32).toNatClampNeg (0 : Int32).toNatClampNeg (3 : Int32).toNatClampNeg := ⟨_, rfl⟩
  have hw := hw g3 eg3
  refine v_copy (ws2 := wGu G a0 g1 g2 g3 ++ wGu G a1 v1.1 v1.2.1 v1.2.2) (pc2 := 42) S 7 3 u_454 u_449 u_448 u_30 rfl rfl (by decide) (by decide) (by decide) (by decide) (by decide) (Nat.le_of_ble_eq_true rfl) (by decide +kernel) (by rw [eg3] <;> rfl) dX1_copy_39 rfl ?_
  exact v_vret S ⟨(g1, g2, g3), rfl, rfl, hw⟩ dX1_copy_42
set_option maxHeartbeats 4000000 in
set_option maxRecDepth 100000 in
theorem c_X1_howManyIn (l : Launch) (G : GG) (a0 : GuA) (v0 : GuV) (i0 : Int32) (Q : Int32 → Prop) (hw : wp_X1_howManyIn v0 i0 Q) : Con l G yX1_howManyIn cX1_howManyIn 4 (some .int) { frames := 0, cells := 0, slots := 0, locals := 0 } [.ref a0.1, .int i0] (wGu G a0 v0.1 v0.2.1 v0.2.2) (PI (fun _ : Unit => wGu G a0 v0.1 v0.2.1 v0.2.2) (fun r _ => Q r)) 0 0 := by
  refine con_of RX1 rfl (by decide) [(0, .ref a0.1), (1, .int i0)] rfl (Nat.le_of_ble_eq_true rfl) ?_
  intro p e s m args below meth c S hname
  have L4 : ∀ (x1 : Int32) (kk : Nat) (x2 : Int32) (x3 : Int32), wp_X1_howManyIn_L4 v0 x1 Q kk x2 x3 → V p l e { frames := 0, cells := 0, slots := 0, locals := 0 } s m args below meth c G (va_A (wGu G a0 v0.1 v0.2.1 v0.2.2) s.heap.size) 4 0 0 (MQ below (EQ G (wGu G a0 v0.1 v0.2.1 v0.2.2) s.heap.size (PI (fun _ : Unit => wGu G a0 v0.1 v0.2.1 v0.2.2) (fun r _ => Q r))) args s 0 0 (va_A (wGu G a0 v0.1 v0.2.1 v0.2.2) s.heap.size)) (wGu G a0 v0.1 v0.2.1 v0.2.2) 4 [(0, .ref a0.1), (1, .int x1), (2, .int x2), (3, .int x3)] [] := by
    intro x1 kk
    induction kk with
    | zero => intro x2 x3 hw; exact hw.elim
    | succ n ih =>
      intro x2 x3 hw
      refine v_iload_n (pc2 := 5) S 3 dX1_howManyIn_4 rfl rfl rfl ?_
      refine v_iconst (v := 3) (pc2 := 6) S dX1_howManyIn_5 (by decide) rfl ?_
      refine v_icmp_ge (pc2 := 9) (tgt := 28) S dX1_howManyIn_6 (by decide) rfl (fun c1 => ?_) (fun c1 => ?_)
      · have hw := hw.1 c1
        refine v_iload_n (pc2 := 29) S 2 dX1_howManyIn_28 rfl rfl rfl ?_
        exact v_iret S ⟨x2, (), rfl, rfl, hw⟩ dX1_howManyIn_29
      · have hw := hw.2 c1
        refine v_aload_n (pc2 := 10) S 0 dX1_howManyIn_9 rfl rfl rfl ?_
        refine v_get (v := .ref a0.2.1) (pc2 := 13) S gf_X1_9 0 rfl rfl dX1_howManyIn_10 rfl ?_
        refine v_iload_n (pc2 := 14) S 3 dX1_howManyIn_13 rfl rfl rfl ?_
        obtain ⟨h2, hw⟩ := hw
        refine v_iald (pc2 := 15) S 1 rfl h2 dX1_howManyIn_14 rfl ?_
        refine v_iload_n (pc2 := 16) S 1 dX1_howManyIn_15 rfl rfl rfl ?_
        refine v_icmp_ne (pc2 := 19) (tgt := 22) S dX1_howManyIn_16 (by decide) rfl (fun c3 => ?_) (fun c3 => ?_)
        · have hw := hw.1 c3
          obtain ⟨z4, ez4⟩ : ∃ y : Int32, y = x3 + (1 : Int32) := ⟨_, rfl⟩
          have hw := hw z4 ez4
          refine v_iinc (v := z4) (lv2 := [(0, .ref a0.1), (1, .int x1), (2, .int x2), (3, .int z4)]) (pc2 := 25) S 3 dX1_howManyIn_22 rfl (by rw [ez4]; rfl) (by decide) [1, 2, 3, 0] rfl rfl ?_
          refine v_goto (tgt := 4) S dX1_howManyIn_25 (by decide) ?_
          exact ih x2 z4 hw
        · have hw := hw.2 c3
          obtain ⟨z5, ez5⟩ : ∃ y : Int32, y = x2 + (1 : Int32) := ⟨_, rfl⟩
          have hw := hw z5 ez5
          refine v_iinc (v := z5) (lv2 := [(0, .ref a0.1), (1, .int x1), (2, .int z5), (3, .int x3)]) (pc2 := 22) S 2 dX1_howManyIn_19 rfl (by rw [ez5]; rfl) (by decide) [1, 2, 0, 3] rfl rfl ?_
          obtain ⟨z6, ez6⟩ : ∃ y : Int32, y = x3 + (1 : Int32) := ⟨_, rfl⟩
          have hw := hw z6 ez6
          refine v_iinc (v := z6) (lv2 := [(0, .ref a0.1), (1, .int x1), (2, .int z5), (3, .int z6)]) (pc2 := 25) S 3 dX1_howManyIn_22 rfl (by rw [ez6]; rfl) (by decide) [1, 2, 3, 0] rfl rfl ?_
          refine v_goto (tgt := 4) S dX1_howManyIn_25 (by decide) ?_
          exact ih z5 z6 hw
  refine v_iconst (v := 0) (pc2 := 1) S dX1_howManyIn_0 (by decide) rfl ?_
  refine v_istore_n (lv2 := [(0, .ref a0.1), (1, .int i0), (2, .int (0 : Int32))]) (pc2 := 2) S dX1_howManyIn_1 rfl (by decide) [1, 2, 0] rfl rfl ?_
  refine v_iconst (v := 0) (pc2 := 3) S dX1_howManyIn_2 (by decide) rfl ?_
  refine v_istore_n (lv2 := [(0, .ref a0.1), (1, .int i0), (2, .int (0 : Int32)), (3, .int (0 : Int32))]) (pc2 := 4) S dX1_howManyIn_3 rfl (by decide) [1, 2, 3, 0] rfl rfl ?_
  obtain ⟨kk, hw⟩ := hw
  exact L4 i0 kk (0 : Int32) (0 : Int32) hw
set_option maxHeartbeats 4000000 in
set_option maxRecDepth 100000 in
theorem c_X4_init (l : Launch) (G : GG) (a0 : Nat) (Q : PadV → Prop) (hw : wp_X4_init Q) : Con l G yX4_init cX4_init 1 none { frames := 1, cells := 1, slots := 60, locals := 20 } [.ref a0] [(a0, .inr (4, [.null, .int 0]))] (PV (fun u : PadA × PadV => wPad G u.1 u.2.1 u.2.2) (fun u => u.1.1 = a0 ∧ Q u.2)) 1 60 := by
  refine con_of RX4 rfl (by decide) [(0, .ref a0)] rfl (Nat.le_of_ble_eq_true rfl) ?_
  intro p e s m args below meth c S hname
  refine v_aload_n (pc2 := 1) S 0 dX4_init_0 rfl rfl rfl ?_
  refine v_objInit (pc2 := 4) S u_186 u_39 u_40 (Nat.le_of_ble_eq_true rfl) (Nat.le_of_ble_eq_true rfl) dX4_init_1 rfl ?_
  refine v_aload_n (pc2 := 5) S 0 dX4_init_4 rfl rfl rfl ?_
  refine v_bipush (v := 60) (pc2 := 7) S dX4_init_5 (by decide) rfl ?_
  refine v_newa (pc2 := 9) (N := 60) S u_86 (by decide) (by decide) (Nat.le_of_ble_eq_true rfl) (Nat.le_of_ble_eq_true rfl) (Nat.le_of_ble_eq_true rfl) dX4_init_7 rfl (fun q1 => ?_)
  refine v_to ([(a0, .inr (4, [.null, .int 0])), (q1, .inl (G.2.1, 60, .inl (fun _ => 0)))]) 9 [(0, .ref a0)] _ [.ref q1, .ref a0] rfl rfl rfl rfl ?_
  refine v_putF (ws2 := [(a0, .inr (4, [.ref q1, .int 0])), (q1, .inl (G.2.1, 60, .inl (fun _ => 0)))]) (pc2 := 12) S (show meth.name = "<init>" from hname) gf_X4_9 pf_X4_0 rfl 0 rfl rfl rfl (Nat.le_of_ble_eq_true rfl) rfl dX4_init_9 rfl ?_
  refine v_aload_n (pc2 := 13) S 0 dX4_init_12 rfl rfl rfl ?_
  refine v_iconst (v := 0) (pc2 := 14) S dX4_init_13 (by decide) rfl ?_
  refine v_put (ws2 := [(a0, .inr (4, [.ref q1, .int (0 : Int32)])), (q1, .inl (G.2.1, 60, .inl (fun _ => 0)))]) (pc2 := 17) S gf_X4_15 pf_X4_1 0 rfl rfl rfl (Nat.le_of_ble_eq_true rfl) rfl dX4_init_14 rfl ?_
  refine v_to (wPad G (a0, q1) (fun _ => 0) (0 : Int32)) 17 [(0, .ref (((a0, q1)).1))] _ [] rfl rfl rfl rfl ?_
  exact v_vret S ⟨((a0, q1), ((fun _ => 0), (0 : Int32))), rfl, rfl, rfl, hw⟩ dX4_init_17
set_option maxHeartbeats 4000000 in
set_option maxRecDepth 100000 in
theorem c_X4_add (l : Launch) (G : GG) (a0 : PadA) (v0 : PadV) (i0 : Int32) (Q : Int32 → PadV → Prop) (hw : wp_X4_add v0 i0 Q) : Con l G yX4_add cX4_add 2 (some .int) { frames := 0, cells := 0, slots := 0, locals := 0 } [.ref a0.1, .int i0] (wPad G a0 v0.1 v0.2) (PI (fun u : PadV => wPad G a0 u.1 u.2) Q) 0 0 := by
  refine con_of RX4 rfl (by decide) [(0, .ref a0.1), (1, .int i0)] rfl (Nat.le_of_ble_eq_true rfl) ?_
  intro p e s m args below meth c S hname
  refine v_aload_n (pc2 := 1) S 0 dX4_add_0 rfl rfl rfl ?_
  refine v_get (v := .int v0.2) (pc2 := 4) S gf_X4_15 0 rfl rfl dX4_add_1 rfl ?_
  refine v_bipush (v := 60) (pc2 := 6) S dX4_add_4 (by decide) rfl ?_
  refine v_icmp_ge (pc2 := 9) (tgt := 29) S dX4_add_6 (by decide) rfl (fun c1 => ?_) (fun c1 => ?_)
  · have hw := hw.1 c1
    refine v_aload_n (pc2 := 30) S 0 dX4_add_29 rfl rfl rfl ?_
    refine v_get (v := .int v0.2) (pc2 := 33) S gf_X4_15 0 rfl rfl dX4_add_30 rfl ?_
    exact v_iret S ⟨v0.2, v0, rfl, rfl, hw⟩ dX4_add_33
  · have hw := hw.2 c1
    refine v_aload_n (pc2 := 10) S 0 dX4_add_9 rfl rfl rfl ?_
    refine v_get (v := .ref a0.2) (pc2 := 13) S gf_X4_9 0 rfl rfl dX4_add_10 rfl ?_
    refine v_aload_n (pc2 := 14) S 0 dX4_add_13 rfl rfl rfl ?_
    refine v_get (v := .int v0.2) (pc2 := 17) S gf_X4_15 0 rfl rfl dX4_add_14 rfl ?_
    refine v_iload_n (pc2 := 18) S 1 dX4_add_17 rfl rfl rfl ?_
    obtain ⟨h2, hw⟩ := hw
    obtain ⟨g3, eg3⟩ : ∃ y : Nat → Int32, y = upd v0.1 v0.2.toNatClampNeg i0 := ⟨_, rfl⟩
    have hw := hw g3 eg3
    refine v_iast (ws2 := wPad G a0 g3 v0.2) (pc2 := 19) S 1 rfl h2 (by rw [eg3] <;> rfl) dX4_add_18 rfl ?_
    refine v_aload_n (pc2 := 20) S 0 dX4_add_19 rfl rfl rfl ?_
    refine v_dup (pc2 := 21) S dX4_add_20 rfl rfl ?_
    refine v_get (v := .int v0.2) (pc2 := 24) S gf_X4_15 0 rfl rfl dX4_add_21 rfl ?_
    refine v_iconst (v := 1) (pc2 := 25) S dX4_add_24 (by decide) rfl ?_
    refine v_iadd (pc2 := 26) S dX4_add_25 rfl ?_
    refine v_nm (fun z4 ez4 => ?_)
    have hw := hw z4 ez4
    refine v_put (ws2 := wPad G a0 g3 z4) (pc2 := 29) S gf_X4_15 pf_X4_1 0 rfl rfl rfl (Nat.le_of_ble_eq_true rfl) rfl dX4_add_26 rfl ?_
    refine v_aload_n (pc2 := 30) S 0 dX4_add_29 rfl rfl rfl ?_
    refine v_get (v := .int z4) (pc2 := 33) S gf_X4_15 0 rfl rfl dX4_add_30 rfl ?_
    exact v_iret S ⟨z4, (g3, z4), rfl, rfl, hw⟩ dX4_add_33
set_option maxHeartbeats 4000000 in
set_option maxRecDepth 100000 in
theorem c_X4_empty (l : Launch) (G : GG) (a0 : PadA) (v0 : PadV) (Q : Int32 → PadV → Prop) (hw : wp_X4_empty v0 Q) : Con l G yX4_empty cX4_empty 2 (some .int) { frames := 0, cells := 0, slots := 0, locals := 0 } [.ref a0.1] (wPad G a0 v0.1 v0.2) (PI (fun u : PadV => wPad G a0 u.1 u.2) Q) 0 0 := by
  refine con_of RX4 rfl (by decide) [(0, .ref a0.1)] rfl (Nat.le_of_ble_eq_true rfl) ?_
  intro p e s m args below meth c S hname
  refine v_aload_n (pc2 := 1) S 0 dX4_empty_0 rfl rfl rfl ?_
  refine v_get (v := .int v0.2) (pc2 := 4) S gf_X4_15 0 rfl rfl dX4_empty_1 rfl ?_
  refine v_nm (fun z1 ez1 => ?_)
  have hw := hw z1 ez1
  refine v_istore_n (lv2 := [(0, .ref a0.1), (1, .int z1)]) (pc2 := 5) S dX4_empty_4 rfl (by decide) [1, 0] rfl rfl ?_
  refine v_aload_n (pc2 := 6) S 0 dX4_empty_5 rfl rfl rfl ?_
  refine v_iconst (v := 0) (pc2 := 7) S dX4_empty_6 (by decide) rfl ?_
  refine v_put (ws2 := wPad G a0 v0.1 (0 : Int32)) (pc2 := 10) S gf_X4_15 pf_X4_1 0 rfl rfl rfl (Nat.le_of_ble_eq_true rfl) rfl dX4_empty_7 rfl ?_
  refine v_iload_n (pc2 := 11) S 1 dX4_empty_10 rfl rfl rfl ?_
  exact v_iret S ⟨z1, (v0.1, (0 : Int32)), rfl, rfl, hw⟩ dX4_empty_11
set_option maxHeartbeats 4000000 in
set_option maxRecDepth 100000 in
theorem c_X4_codeAt (l : Launch) (G : GG) (a0 : PadA) (v0 : PadV) (i0 : Int32) (Q : Int32 → Prop) (hw : wp_X4_codeAt v0 i0 Q) : Con l G yX4_codeAt cX4_codeAt 2 (some .int) { frames := 0, cells := 0, slots := 0, locals := 0 } [.ref a0.1, .int i0] (wPad G a0 v0.1 v0.2) (PI (fun _ : Unit => wPad G a0 v0.1 v0.2) (fun r _ => Q r)) 0 0 := by
  refine con_of RX4 rfl (by decide) [(0, .ref a0.1), (1, .int i0)] rfl (Nat.le_of_ble_eq_true rfl) ?_
  intro p e s m args below meth c S hname
  refine v_iload_n (pc2 := 1) S 1 dX4_codeAt_0 rfl rfl rfl ?_
  refine v_if_lt (pc2 := 4) (tgt := 21) S dX4_codeAt_1 (by decide) rfl (fun c1 => ?_) (fun c1 => ?_)
  · have hw := hw.1 c1
    refine v_iconst (v := 0) (pc2 := 22) S dX4_codeAt_21 (by decide) rfl ?_
    exact v_iret S ⟨(0 : Int32), (), rfl, rfl, hw⟩ dX4_codeAt_22
  · have hw := hw.2 c1
    refine v_iload_n (pc2 := 5) S 1 dX4_codeAt_4 rfl rfl rfl ?_
    refine v_aload_n (pc2 := 6) S 0 dX4_codeAt_5 rfl rfl rfl ?_
    refine v_get (v := .int v0.2) (pc2 := 9) S gf_X4_15 0 rfl rfl dX4_codeAt_6 rfl ?_
    refine v_icmp_ge (pc2 := 12) (tgt := 21) S dX4_codeAt_9 (by decide) rfl (fun c2 => ?_) (fun c2 => ?_)
    · have hw := hw.1 c2
      refine v_iconst (v := 0) (pc2 := 22) S dX4_codeAt_21 (by decide) rfl ?_
      exact v_iret S ⟨(0 : Int32), (), rfl, rfl, hw⟩ dX4_codeAt_22
    · have hw := hw.2 c2
      refine v_aload_n (pc2 := 13) S 0 dX4_codeAt_12 rfl rfl rfl ?_
      refine v_get (v := .ref a0.2) (pc2 := 16) S gf_X4_9 0 rfl rfl dX4_codeAt_13 rfl ?_
      refine v_iload_n (pc2 := 17) S 1 dX4_codeAt_16 rfl rfl rfl ?_
      obtain ⟨h3, hw⟩ := hw
      refine v_iald (pc2 := 18) S 1 rfl h3 dX4_codeAt_17 rfl ?_
      refine v_goto (tgt := 22) S dX4_codeAt_18 (by decide) ?_
      exact v_iret S ⟨v0.1 i0.toNatClampNeg, (), rfl, rfl, hw⟩ dX4_codeAt_22
set_option maxHeartbeats 4000000 in
set_option maxRecDepth 100000 in
theorem c_X4_expectedAfter (l : Launch) (G : GG) (i0 : Int32) (i1 : Int32) (Q : Int32 → Prop) (hw : wp_X4_expectedAfter i0 i1 Q) : Con l G yX4_expectedAfter cX4_expectedAfter 2 (some .int) { frames := 1, cells := 0, slots := 0, locals := 20 } [.int i0, .int i1] ([]) (PI (fun _ : Unit => []) (fun r _ => Q r)) 0 0 := by
  refine con_of RX4 rfl (by decide) [(0, .int i0), (1, .int i1)] rfl (Nat.le_of_ble_eq_true rfl) ?_
  intro p e s m args below meth c S hname
  refine v_iload_n (pc2 := 1) S 0 dX4_expectedAfter_0 rfl rfl rfl ?_
  by_cases c1 : i0 = (0 : Int32)
  · have hw := hw.1 c1
    refine v_tableIn (off := 35) (tgt := 36) S dX4_expectedAfter_1 (by rw [c1]; decide) (by rw [c1]; decide) (by rw [c1]; rfl) (by decide) ?_
    refine v_iload_n (pc2 := 37) S 1 dX4_expectedAfter_36 rfl rfl rfl ?_
    refine v_bipush (v := 103) (pc2 := 39) S dX4_expectedAfter_37 (by decide) rfl ?_
    refine v_icmp_ne (pc2 := 42) (tgt := 44) S dX4_expectedAfter_39 (by decide) rfl (fun c2 => ?_) (fun c2 => ?_)
    · have hw := hw.1 c2
      refine v_iload_n (pc2 := 45) S 1 dX4_expectedAfter_44 rfl rfl rfl ?_
      refine v_bipush (v := 111) (pc2 := 47) S dX4_expectedAfter_45 (by decide) rfl ?_
      refine v_icmp_eq (pc2 := 50) (tgt := 56) S dX4_expectedAfter_47 (by decide) rfl (fun c3 => ?_) (fun c3 => ?_)
      · have hw := hw.1 c3
        refine v_iconst (v := 3) (pc2 := 57) S dX4_expectedAfter_56 (by decide) rfl ?_
        refine v_goto (tgt := 61) S dX4_expectedAfter_57 (by decide) ?_
        exact v_iret S ⟨(3 : Int32), (), rfl, rfl, hw⟩ dX4_expectedAfter_61
      · have hw := hw.2 c3
        refine v_iload_n (pc2 := 51) S 1 dX4_expectedAfter_50 rfl rfl rfl ?_
        refine v_bipush (v := 99) (pc2 := 53) S dX4_expectedAfter_51 (by decide) rfl ?_
        refine v_icmp_ne (pc2 := 56) (tgt := 60) S dX4_expectedAfter_53 (by decide) rfl (fun c4 => ?_) (fun c4 => ?_)
        · have hw := hw.1 c4
          refine v_iconst (v := 5) (pc2 := 61) S dX4_expectedAfter_60 (by decide) rfl ?_
          exact v_iret S ⟨(5 : Int32), (), rfl, rfl, hw⟩ dX4_expectedAfter_61
        · have hw := hw.2 c4
          refine v_iconst (v := 3) (pc2 := 57) S dX4_expectedAfter_56 (by decide) rfl ?_
          refine v_goto (tgt := 61) S dX4_expectedAfter_57 (by decide) ?_
          exact v_iret S ⟨(3 : Int32), (), rfl, rfl, hw⟩ dX4_expectedAfter_61
    · have hw := hw.2 c2
      refine v_iconst (v := 1) (pc2 := 43) S dX4_expectedAfter_42 (by decide) rfl ?_
      exact v_iret S ⟨(1 : Int32), (), rfl, rfl, hw⟩ dX4_expectedAfter_43
  · have hw := hw.2
    by_cases c5 : i0 = (1 : Int32)
    · have hw := hw.1 c5
      refine v_tableIn (off := 61) (tgt := 62) S dX4_expectedAfter_1 (by rw [c5]; decide) (by rw [c5]; decide) (by rw [c5]; rfl) (by decide) ?_
      refine v_iload_n (pc2 := 63) S 1 dX4_expectedAfter_62 rfl rfl rfl ?_
      refine v_bipush (v := 48) (pc2 := 65) S dX4_expectedAfter_63 (by decide) rfl ?_
      refine v_isub (pc2 := 66) S dX4_expectedAfter_65 rfl ?_
      refine v_callSN (pc2 := 69) (As := [.int (i1 - (48 : Int32))]) (rest := []) S (c_X8_isGuest l G (i1 - (48 : Int32)) _ hw) mf_X8_isGuest u_704 u_257 rfl rfl ⟨rfl, rfl⟩ ⟨Nat.le_of_ble_eq_true rfl, Nat.le_of_ble_eq_true rfl⟩ ⟨Nat.le_of_ble_eq_true rfl, Nat.le_of_ble_eq_true rfl⟩ (Nat.le_of_ble_eq_true rfl) dX4_expectedAfter_66 (frM [] [] _) rfl (pb (fun r6 u7 br6 hw => ?_))
      refine v_to ([]) 69 [(0, .int i0), (1, .int i1)] _ [.int r6] rfl rfl rfl rfl ?_
      refine v_if_eq (pc2 := 72) (tgt := 76) S dX4_expectedAfter_69 (by decide) rfl (fun c8 => ?_) (fun c8 => ?_)
      · have hw := hw.1 c8
        refine v_iconst (v := 5) (pc2 := 77) S dX4_expectedAfter_76 (by decide) rfl ?_
        exact v_iret S ⟨(5 : Int32), (), rfl, rfl, hw⟩ dX4_expectedAfter_77
      · have hw := hw.2 c8
        refine v_iconst (v := 2) (pc2 := 73) S dX4_expectedAfter_72 (by decide) rfl ?_
        refine v_goto (tgt := 77) S dX4_expectedAfter_73 (by decide) ?_
        exact v_iret S ⟨(2 : Int32), (), rfl, rfl, hw⟩ dX4_expectedAfter_77
    · have hw := hw.2
      by_cases c9 : i0 = (2 : Int32)
      · have hw := hw.1 c9
        refine v_tableIn (off := 77) (tgt := 78) S dX4_expectedAfter_1 (by rw [c9]; decide) (by rw [c9]; decide) (by rw [c9]; rfl) (by decide) ?_
        refine v_iload_n (pc2 := 79) S 1 dX4_expectedAfter_78 rfl rfl rfl ?_
        refine v_bipush (v := 111) (pc2 := 81) S dX4_expectedAfter_79 (by decide) rfl ?_
        refine v_icmp_eq (pc2 := 84) (tgt := 96) S dX4_expectedAfter_81 (by decide) rfl (fun c10 => ?_) (fun c10 => ?_)
        · have hw := hw.1 c10
          refine v_iconst (v := 3) (pc2 := 97) S dX4_expectedAfter_96 (by decide) rfl ?_
          refine v_goto (tgt := 101) S dX4_expectedAfter_97 (by decide) ?_
          exact v_iret S ⟨(3 : Int32), (), rfl, rfl, hw⟩ dX4_expectedAfter_101
        · have hw := hw.2 c10
          refine v_iload_n (pc2 := 85) S 1 dX4_expectedAfter_84 rfl rfl rfl ?_
          refine v_bipush (v := 99) (pc2 := 87) S dX4_expectedAfter_85 (by decide) rfl ?_
          refine v_icmp_eq (pc2 := 90) (tgt := 96) S dX4_expectedAfter_87 (by decide) rfl (fun c11 => ?_) (fun c11 => ?_)
          · have hw := hw.1 c11
            refine v_iconst (v := 3) (pc2 := 97) S dX4_expectedAfter_96 (by decide) rfl ?_
            refine v_goto (tgt := 101) S dX4_expectedAfter_97 (by decide) ?_
            exact v_iret S ⟨(3 : Int32), (), rfl, rfl, hw⟩ dX4_expectedAfter_101
          · have hw := hw.2 c11
            refine v_iload_n (pc2 := 91) S 1 dX4_expectedAfter_90 rfl rfl rfl ?_
            refine v_bipush (v := 119) (pc2 := 93) S dX4_expectedAfter_91 (by decide) rfl ?_
            refine v_icmp_ne (pc2 := 96) (tgt := 100) S dX4_expectedAfter_93 (by decide) rfl (fun c12 => ?_) (fun c12 => ?_)
            · have hw := hw.1 c12
              refine v_iconst (v := 5) (pc2 := 101) S dX4_expectedAfter_100 (by decide) rfl ?_
              exact v_iret S ⟨(5 : Int32), (), rfl, rfl, hw⟩ dX4_expectedAfter_101
            · have hw := hw.2 c12
              refine v_iconst (v := 3) (pc2 := 97) S dX4_expectedAfter_96 (by decide) rfl ?_
              refine v_goto (tgt := 101) S dX4_expectedAfter_97 (by decide) ?_
              exact v_iret S ⟨(3 : Int32), (), rfl, rfl, hw⟩ dX4_expectedAfter_101
      · have hw := hw.2
        by_cases c13 : i0 = (3 : Int32)
        · have hw := hw.1 c13
          refine v_tableIn (off := 101) (tgt := 102) S dX4_expectedAfter_1 (by rw [c13]; decide) (by rw [c13]; decide) (by rw [c13]; rfl) (by decide) ?_
          refine v_iload_n (pc2 := 103) S 1 dX4_expectedAfter_102 rfl rfl rfl ?_
          refine v_bipush (v := 48) (pc2 := 105) S dX4_expectedAfter_103 (by decide) rfl ?_
          refine v_isub (pc2 := 106) S dX4_expectedAfter_105 rfl ?_
          refine v_callSN (pc2 := 109) (As := [.int (i1 - (48 : Int32))]) (rest := []) S (c_X8_isDoor l G (i1 - (48 : Int32)) _ hw) mf_X8_isDoor u_705 u_489 rfl rfl ⟨rfl, rfl⟩ ⟨Nat.le_of_ble_eq_true rfl, Nat.le_of_ble_eq_true rfl⟩ ⟨Nat.le_of_ble_eq_true rfl, Nat.le_of_ble_eq_true rfl⟩ (Nat.le_of_ble_eq_true rfl) dX4_expectedAfter_106 (frM [] [] _) rfl (pb (fun r14 u15 br14 hw => ?_))
          refine v_to ([]) 109 [(0, .int i0), (1, .int i1)] _ [.int r14] rfl rfl rfl rfl ?_
          refine v_if_eq (pc2 := 112) (tgt := 116) S dX4_expectedAfter_109 (by decide) rfl (fun c16 => ?_) (fun c16 => ?_)
          · have hw := hw.1 c16
            refine v_iconst (v := 5) (pc2 := 117) S dX4_expectedAfter_116 (by decide) rfl ?_
            exact v_iret S ⟨(5 : Int32), (), rfl, rfl, hw⟩ dX4_expectedAfter_117
          · have hw := hw.2 c16
            refine v_iconst (v := 4) (pc2 := 113) S dX4_expectedAfter_112 (by decide) rfl ?_
            refine v_goto (tgt := 117) S dX4_expectedAfter_113 (by decide) ?_
            exact v_iret S ⟨(4 : Int32), (), rfl, rfl, hw⟩ dX4_expectedAfter_117
        · have hw := hw.2
          by_cases c17 : i0 = (4 : Int32)
          · have hw := hw.1 c17
            refine v_tableIn (off := 117) (tgt := 118) S dX4_expectedAfter_1 (by rw [c17]; decide) (by rw [c17]; decide) (by rw [c17]; rfl) (by decide) ?_
            refine v_iload_n (pc2 := 119) S 1 dX4_expectedAfter_118 rfl rfl rfl ?_
            refine v_bipush (v := 59) (pc2 := 121) S dX4_expectedAfter_119 (by decide) rfl ?_
            refine v_icmp_ne (pc2 := 124) (tgt := 128) S dX4_expectedAfter_121 (by decide) rfl (fun c18 => ?_) (fun c18 => ?_)
            · have hw := hw.1 c18
              refine v_iconst (v := 5) (pc2 := 129) S dX4_expectedAfter_128 (by decide) rfl ?_
              exact v_iret S ⟨(5 : Int32), (), rfl, rfl, hw⟩ dX4_expectedAfter_129
            · have hw := hw.2 c18
              refine v_iconst (v := 0) (pc2 := 125) S dX4_expectedAfter_124 (by decide) rfl ?_
              refine v_goto (tgt := 129) S dX4_expectedAfter_125 (by decide) ?_
              exact v_iret S ⟨(0 : Int32), (), rfl, rfl, hw⟩ dX4_expectedAfter_129
          · have hw := hw.2
            have hw := hw c1 c5 c9 c13 c17
            refine v_tableOut (tgt := 130) S dX4_expectedAfter_1 (sw_out4 c1 c5 c9 c13 c17) (by decide) ?_
            refine v_iconst (v := 5) (pc2 := 131) S dX4_expectedAfter_130 (by decide) rfl ?_
            exact v_iret S ⟨(5 : Int32), (), rfl, rfl, hw⟩ dX4_expectedAfter_131
set_option maxHeartbeats 4000000 in
set_option maxRecDepth 100000 in
theorem c_X4_faultPlace (l : Launch) (G : GG) (a0 : PadA) (v0 : PadV) (Q : Int32 → Prop) (hw : wp_X4_faultPlace v0 Q) : Con l G yX4_faultPlace cX4_faultPlace 3 (some .int) { frames := 2, cells := 0, slots := 0, locals := 41 } [.ref a0.1] (wPad G a0 v0.1 v0.2) (PI (fun _ : Unit => wPad G a0 v0.1 v0.2) (fun r _ => Q r)) 0 0 := by
  refine con_of RX4 rfl (by decide) [(0, .ref a0.1)] rfl (Nat.le_of_ble_eq_true rfl) ?_
  intro p e s m args below meth c S hname
  have L4 : ∀ (kk : Nat) (x1 : Int32) (x2 : Int32), wp_X4_faultPlace_L4 v0 Q kk x1 x2 → V p l e { frames := 2, cells := 0, slots := 0, locals := 41 } s m args below meth c G (va_A (wPad G a0 v0.1 v0.2) s.heap.size) 3 0 0 (MQ below (EQ G (wPad G a0 v0.1 v0.2) s.heap.size (PI (fun _ : Unit => wPad G a0 v0.1 v0.2) (fun r _ => Q r))) args s 0 0 (va_A (wPad G a0 v0.1 v0.2) s.heap.size)) (wPad G a0 v0.1 v0.2) 4 [(0, .ref a0.1), (1, .int x1), (2, .int x2)] [] := by
    intro kk
    induction kk with
    | zero => intro x1 x2 hw; exact hw.elim
    | succ n ih =>
      intro x1 x2 hw
      refine v_iload_n (pc2 := 5) S 2 dX4_faultPlace_4 rfl rfl rfl ?_
      refine v_aload_n (pc2 := 6) S 0 dX4_faultPlace_5 rfl rfl rfl ?_
      refine v_get (v := .int v0.2) (pc2 := 9) S gf_X4_15 0 rfl rfl dX4_faultPlace_6 rfl ?_
      refine v_icmp_ge (pc2 := 12) (tgt := 35) S dX4_faultPlace_9 (by decide) rfl (fun c1 => ?_) (fun c1 => ?_)
      · have hw := hw.1 c1
        refine v_iload_n (pc2 := 36) S 1 dX4_faultPlace_35 rfl rfl rfl ?_
        refine v_iconst (v := 4) (pc2 := 37) S dX4_faultPlace_36 (by decide) rfl ?_
        refine v_icmp_ne (pc2 := 40) (tgt := 45) S dX4_faultPlace_37 (by decide) rfl (fun c2 => ?_) (fun c2 => ?_)
        · have hw := hw.1 c2
          refine v_aload_n (pc2 := 46) S 0 dX4_faultPlace_45 rfl rfl rfl ?_
          refine v_get (v := .int v0.2) (pc2 := 49) S gf_X4_15 0 rfl rfl dX4_faultPlace_46 rfl ?_
          exact v_iret S ⟨v0.2, (), rfl, rfl, hw⟩ dX4_faultPlace_49
        · have hw := hw.2 c2
          refine v_bipush (v := -4) (pc2 := 42) S dX4_faultPlace_40 (by decide) rfl ?_
          refine v_goto (tgt := 49) S dX4_faultPlace_42 (by decide) ?_
          exact v_iret S ⟨(-4 : Int32), (), rfl, rfl, hw⟩ dX4_faultPlace_49
      · have hw := hw.2 c1
        refine v_iload_n (pc2 := 13) S 1 dX4_faultPlace_12 rfl rfl rfl ?_
        refine v_aload_n (pc2 := 14) S 0 dX4_faultPlace_13 rfl rfl rfl ?_
        refine v_iload_n (pc2 := 15) S 2 dX4_faultPlace_14 rfl rfl rfl ?_
        refine v_callV (pc2 := 18) (As := [.int x2]) (rest := [.int x1]) S (c_X4_codeAt l G a0 v0 x2 _ hw) mf_X4_codeAt u_697 u_699 u_16 0 4 rfl rfl rfl rfl ⟨rfl, rfl⟩ ⟨Nat.le_of_ble_eq_true rfl, Nat.le_of_ble_eq_true rfl⟩ ⟨Nat.le_of_ble_eq_true rfl, Nat.le_of_ble_eq_true rfl⟩ (Nat.le_of_ble_eq_true rfl) dX4_faultPlace_15 (frW _) rfl (pi (fun r3 u4 hw => ?_))
        refine v_to (wPad G a0 v0.1 v0.2) 18 [(0, .ref a0.1), (1, .int x1), (2, .int x2)] _ [.int r3, .int x1] rfl rfl rfl rfl ?_
        refine v_callS (pc2 := 21) (As := [.int x1, .int r3]) (rest := []) S (c_X4_expectedAfter l G x1 r3 _ hw) mf_X4_expectedAfter u_701 u_702 rfl rfl ⟨rfl, rfl⟩ ⟨Nat.le_of_ble_eq_true rfl, Nat.le_of_ble_eq_true rfl⟩ ⟨Nat.le_of_ble_eq_true rfl, Nat.le_of_ble_eq_true rfl⟩ (Nat.le_of_ble_eq_true rfl) dX4_faultPlace_18 (frM [] [] _) rfl (pi (fun r5 u6 hw => ?_))
        refine v_to (wPad G a0 v0.1 v0.2) 21 [(0, .ref a0.1), (1, .int x1), (2, .int x2)] _ [.int r5] rfl rfl rfl rfl ?_
        refine v_istore_n (lv2 := [(0, .ref a0.1), (1, .int r5), (2, .int x2)]) (pc2 := 22) S dX4_faultPlace_21 rfl (by decide) [1, 0, 2] rfl rfl ?_
        refine v_iload_n (pc2 := 23) S 1 dX4_faultPlace_22 rfl rfl rfl ?_
        refine v_iconst (v := 5) (pc2 := 24) S dX4_faultPlace_23 (by decide) rfl ?_
        refine v_icmp_ne (pc2 := 27) (tgt := 29) S dX4_faultPlace_24 (by decide) rfl (fun c7 => ?_) (fun c7 => ?_)
        · have hw := hw.1 c7
          obtain ⟨z8, ez8⟩ : ∃ y : Int32, y = x2 + (1 : Int32) := ⟨_, rfl⟩
          have hw := hw z8 ez8
          refine v_iinc (v := z8) (lv2 := [(0, .ref a0.1), (1, .int r5), (2, .int z8)]) (pc2 := 32) S 2 dX4_faultPlace_29 rfl (by rw [ez8]; rfl) (by decide) [1, 2, 0] rfl rfl ?_
          refine v_goto (tgt := 4) S dX4_faultPlace_32 (by decide) ?_
          exact ih r5 z8 hw
        · have hw := hw.2 c7
          refine v_iload_n (pc2 := 28) S 2 dX4_faultPlace_27 rfl rfl rfl ?_
          exact v_iret S ⟨x2, (), rfl, rfl, hw⟩ dX4_faultPlace_28
  refine v_iconst (v := 0) (pc2 := 1) S dX4_faultPlace_0 (by decide) rfl ?_
  refine v_istore_n (lv2 := [(0, .ref a0.1), (1, .int (0 : Int32))]) (pc2 := 2) S dX4_faultPlace_1 rfl (by decide) [1, 0] rfl rfl ?_
  refine v_iconst (v := 0) (pc2 := 3) S dX4_faultPlace_2 (by decide) rfl ?_
  refine v_istore_n (lv2 := [(0, .ref a0.1), (1, .int (0 : Int32)), (2, .int (0 : Int32))]) (pc2 := 4) S dX4_faultPlace_3 rfl (by decide) [1, 2, 0] rfl rfl ?_
  obtain ⟨kk, hw⟩ := hw
  exact L4 kk (0 : Int32) (0 : Int32) hw
set_option maxHeartbeats 4000000 in
set_option maxRecDepth 100000 in
theorem c_X4_isGuestsDeed (l : Launch) (G : GG) (a0 : PadA) (v0 : PadV) (i0 : Int32) (Q : Int32 → Prop) (hw : wp_X4_isGuestsDeed v0 i0 Q) : Con l G yX4_isGuestsDeed cX4_isGuestsDeed 2 (some .boolean) { frames := 1, cells := 0, slots := 0, locals := 21 } [.ref a0.1, .int i0] (wPad G a0 v0.1 v0.2) (PB (fun _ : Unit => wPad G a0 v0.1 v0.2) (fun r _ => Q r)) 0 0 := by
  refine con_of RX4 rfl (by decide) [(0, .ref a0.1), (1, .int i0)] rfl (Nat.le_of_ble_eq_true rfl) ?_
  intro p e s m args below meth c S hname
  refine v_aload_n (pc2 := 1) S 0 dX4_isGuestsDeed_0 rfl rfl rfl ?_
  refine v_iload_n (pc2 := 2) S 1 dX4_isGuestsDeed_1 rfl rfl rfl ?_
  refine v_callV (pc2 := 5) (As := [.int i0]) (rest := []) S (c_X4_codeAt l G a0 v0 i0 _ hw) mf_X4_codeAt u_697 u_699 u_16 0 4 rfl rfl rfl rfl ⟨rfl, rfl⟩ ⟨Nat.le_of_ble_eq_true rfl, Nat.le_of_ble_eq_true rfl⟩ ⟨Nat.le_of_ble_eq_true rfl, Nat.le_of_ble_eq_true rfl⟩ (Nat.le_of_ble_eq_true rfl) dX4_isGuestsDeed_2 (frW _) rfl (pi (fun r1 u2 hw => ?_))
  refine v_to (wPad G a0 v0.1 v0.2) 5 [(0, .ref a0.1), (1, .int i0)] _ [.int r1] rfl rfl rfl rfl ?_
  refine v_bipush (v := 103) (pc2 := 7) S dX4_isGuestsDeed_5 (by decide) rfl ?_
  refine v_icmp_ne (pc2 := 10) (tgt := 14) S dX4_isGuestsDeed_7 (by decide) rfl (fun c3 => ?_) (fun c3 => ?_)
  · have hw := hw.1 c3
    refine v_iconst (v := 0) (pc2 := 15) S dX4_isGuestsDeed_14 (by decide) rfl ?_
    exact v_zret S (by decide) ⟨(0 : Int32), (), rfl, (by decide), rfl, hw⟩ dX4_isGuestsDeed_15
  · have hw := hw.2 c3
    refine v_iconst (v := 1) (pc2 := 11) S dX4_isGuestsDeed_10 (by decide) rfl ?_
    refine v_goto (tgt := 15) S dX4_isGuestsDeed_11 (by decide) ?_
    exact v_zret S (by decide) ⟨(1 : Int32), (), rfl, (by decide), rfl, hw⟩ dX4_isGuestsDeed_15
set_option maxHeartbeats 4000000 in
set_option maxRecDepth 100000 in
theorem c_X4_guestOfDeed (l : Launch) (G : GG) (a0 : PadA) (v0 : PadV) (i0 : Int32) (Q : Int32 → Prop) (hw : wp_X4_guestOfDeed v0 i0 Q) : Con l G yX4_guestOfDeed cX4_guestOfDeed 2 (some .int) { frames := 1, cells := 0, slots := 0, locals := 21 } [.ref a0.1, .int i0] (wPad G a0 v0.1 v0.2) (PI (fun _ : Unit => wPad G a0 v0.1 v0.2) (fun r _ => Q r)) 0 0 := by
  refine con_of RX4 rfl (by decide) [(0, .ref a0.1), (1, .int i0)] rfl (Nat.le_of_ble_eq_true rfl) ?_
  intro p e s m args below meth c S hname
  refine v_aload_n (pc2 := 1) S 0 dX4_guestOfDeed_0 rfl rfl rfl ?_
  refine v_iload_n (pc2 := 2) S 1 dX4_guestOfDeed_1 rfl rfl rfl ?_
  refine v_iconst (v := 1) (pc2 := 3) S dX4_guestOfDeed_2 (by decide) rfl ?_
  refine v_iadd (pc2 := 4) S dX4_guestOfDeed_3 rfl ?_
  refine v_callV (pc2 := 7) (As := [.int (i0 + (1 : Int32))]) (rest := []) S (c_X4_codeAt l G a0 v0 (i0 + (1 : Int32)) _ hw) mf_X4_codeAt u_697 u_699 u_16 0 4 rfl rfl rfl rfl ⟨rfl, rfl⟩ ⟨Nat.le_of_ble_eq_true rfl, Nat.le_of_ble_eq_true rfl⟩ ⟨Nat.le_of_ble_eq_true rfl, Nat.le_of_ble_eq_true rfl⟩ (Nat.le_of_ble_eq_true rfl) dX4_guestOfDeed_4 (frW _) rfl (pi (fun r1 u2 hw => ?_))
  refine v_to (wPad G a0 v0.1 v0.2) 7 [(0, .ref a0.1), (1, .int i0)] _ [.int r1] rfl rfl rfl rfl ?_
  refine v_bipush (v := 48) (pc2 := 9) S dX4_guestOfDeed_7 (by decide) rfl ?_
  refine v_isub (pc2 := 10) S dX4_guestOfDeed_9 rfl ?_
  exact v_iret S ⟨r1 - (48 : Int32), (), rfl, rfl, hw⟩ dX4_guestOfDeed_10
set_option maxHeartbeats 4000000 in
set_option maxRecDepth 100000 in
theorem c_X4_placeOfLetter (l : Launch) (G : GG) (a0 : PadA) (v0 : PadV) (i0 : Int32) (Q : Int32 → Prop) (hw : wp_X4_placeOfLetter v0 i0 Q) : Con l G yX4_placeOfLetter cX4_placeOfLetter 2 (some .int) { frames := 2, cells := 0, slots := 0, locals := 42 } [.ref a0.1, .int i0] (wPad G a0 v0.1 v0.2) (PI (fun _ : Unit => wPad G a0 v0.1 v0.2) (fun r _ => Q r)) 0 0 := by
  refine con_of RX4 rfl (by decide) [(0, .ref a0.1), (1, .int i0)] rfl (Nat.le_of_ble_eq_true rfl) ?_
  intro p e s m args below meth c S hname
  refine v_aload_n (pc2 := 1) S 0 dX4_placeOfLetter_0 rfl rfl rfl ?_
  refine v_iload_n (pc2 := 2) S 1 dX4_placeOfLetter_1 rfl rfl rfl ?_
  refine v_callV (pc2 := 5) (As := [.int i0]) (rest := []) S (c_X4_isGuestsDeed l G a0 v0 i0 _ hw) mf_X4_isGuestsDeed u_722 u_723 u_724 0 4 rfl rfl rfl rfl ⟨rfl, rfl⟩ ⟨Nat.le_of_ble_eq_true rfl, Nat.le_of_ble_eq_true rfl⟩ ⟨Nat.le_of_ble_eq_true rfl, Nat.le_of_ble_eq_true rfl⟩ (Nat.le_of_ble_eq_true rfl) dX4_placeOfLetter_2 (frW _) rfl (pb (fun r1 u2 br1 hw => ?_))
  refine v_to (wPad G a0 v0.1 v0.2) 5 [(0, .ref a0.1), (1, .int i0)] _ [.int r1] rfl rfl rfl rfl ?_
  refine v_if_eq (pc2 := 8) (tgt := 14) S dX4_placeOfLetter_5 (by decide) rfl (fun c3 => ?_) (fun c3 => ?_)
  · have hw := hw.1 c3
    refine v_iload_n (pc2 := 15) S 1 dX4_placeOfLetter_14 rfl rfl rfl ?_
    exact v_iret S ⟨i0, (), rfl, rfl, hw⟩ dX4_placeOfLetter_15
  · have hw := hw.2 c3
    refine v_iload_n (pc2 := 9) S 1 dX4_placeOfLetter_8 rfl rfl rfl ?_
    refine v_iconst (v := 2) (pc2 := 10) S dX4_placeOfLetter_9 (by decide) rfl ?_
    refine v_iadd (pc2 := 11) S dX4_placeOfLetter_10 rfl ?_
    refine v_goto (tgt := 15) S dX4_placeOfLetter_11 (by decide) ?_
    exact v_iret S ⟨i0 + (2 : Int32), (), rfl, rfl, hw⟩ dX4_placeOfLetter_15
set_option maxHeartbeats 4000000 in
set_option maxRecDepth 100000 in
theorem c_X4_letterOfDeed (l : Launch) (G : GG) (a0 : PadA) (v0 : PadV) (i0 : Int32) (Q : Int32 → Prop) (hw : wp_X4_letterOfDeed v0 i0 Q) : Con l G yX4_letterOfDeed cX4_letterOfDeed 2 (some .int) { frames := 3, cells := 0, slots := 0, locals := 63 } [.ref a0.1, .int i0] (wPad G a0 v0.1 v0.2) (PI (fun _ : Unit => wPad G a0 v0.1 v0.2) (fun r _ => Q r)) 0 0 := by
  refine con_of RX4 rfl (by decide) [(0, .ref a0.1), (1, .int i0)] rfl (Nat.le_of_ble_eq_true rfl) ?_
  intro p e s m args below meth c S hname
  refine v_aload_n (pc2 := 1) S 0 dX4_letterOfDeed_0 rfl rfl rfl ?_
  refine v_aload_n (pc2 := 2) S 0 dX4_letterOfDeed_1 rfl rfl rfl ?_
  refine v_iload_n (pc2 := 3) S 1 dX4_letterOfDeed_2 rfl rfl rfl ?_
  refine v_callV (pc2 := 6) (As := [.int i0]) (rest := [.ref a0.1]) S (c_X4_placeOfLetter l G a0 v0 i0 _ hw) mf_X4_placeOfLetter u_718 u_720 u_18 0 4 rfl rfl rfl rfl ⟨rfl, rfl⟩ ⟨Nat.le_of_ble_eq_true rfl, Nat.le_of_ble_eq_true rfl⟩ ⟨Nat.le_of_ble_eq_true rfl, Nat.le_of_ble_eq_true rfl⟩ (Nat.le_of_ble_eq_true rfl) dX4_letterOfDeed_3 (frW _) rfl (pi (fun r1 u2 hw => ?_))
  refine v_to (wPad G a0 v0.1 v0.2) 6 [(0, .ref a0.1), (1, .int i0)] _ [.int r1, .ref a0.1] rfl rfl rfl rfl ?_
  refine v_callV (pc2 := 9) (As := [.int r1]) (rest := []) S (c_X4_codeAt l G a0 v0 r1 _ hw) mf_X4_codeAt u_697 u_699 u_16 0 4 rfl rfl rfl rfl ⟨rfl, rfl⟩ ⟨Nat.le_of_ble_eq_true rfl, Nat.le_of_ble_eq_true rfl⟩ ⟨Nat.le_of_ble_eq_true rfl, Nat.le_of_ble_eq_true rfl⟩ (Nat.le_of_ble_eq_true rfl) dX4_letterOfDeed_6 (frW _) rfl (pi (fun r3 u4 hw => ?_))
  refine v_to (wPad G a0 v0.1 v0.2) 9 [(0, .ref a0.1), (1, .int i0)] _ [.int r3] rfl rfl rfl rfl ?_
  exact v_iret S ⟨r3, (), rfl, rfl, hw⟩ dX4_letterOfDeed_9
set_option maxHeartbeats 4000000 in
set_option maxRecDepth 100000 in
theorem c_X4_doorOfDeed (l : Launch) (G : GG) (a0 : PadA) (v0 : PadV) (i0 : Int32) (Q : Int32 → Prop) (hw : wp_X4_doorOfDeed v0 i0 Q) : Con l G yX4_doorOfDeed cX4_doorOfDeed 2 (some .int) { frames := 3, cells := 0, slots := 0, locals := 63 } [.ref a0.1, .int i0] (wPad G a0 v0.1 v0.2) (PI (fun _ : Unit => wPad G a0 v0.1 v0.2) (fun r _ => Q r)) 0 0 := by
  refine con_of RX4 rfl (by decide) [(0, .ref a0.1), (1, .int i0)] rfl (Nat.le_of_ble_eq_true rfl) ?_
  intro p e s m args below meth c S hname
  refine v_aload_n (pc2 := 1) S 0 dX4_doorOfDeed_0 rfl rfl rfl ?_
  refine v_aload_n (pc2 := 2) S 0 dX4_doorOfDeed_1 rfl rfl rfl ?_
  refine v_iload_n (pc2 := 3) S 1 dX4_doorOfDeed_2 rfl rfl rfl ?_
  refine v_callV (pc2 := 6) (As := [.int i0]) (rest := [.ref a0.1]) S (c_X4_placeOfLetter l G a0 v0 i0 _ hw) mf_X4_placeOfLetter u_718 u_720 u_18 0 4 rfl rfl rfl rfl ⟨rfl, rfl⟩ ⟨Nat.le_of_ble_eq_true rfl, Nat.le_of_ble_eq_true rfl⟩ ⟨Nat.le_of_ble_eq_true rfl, Nat.le_of_ble_eq_true rfl⟩ (Nat.le_of_ble_eq_true rfl) dX4_doorOfDeed_3 (frW _) rfl (pi (fun r1 u2 hw => ?_))
  refine v_to (wPad G a0 v0.1 v0.2) 6 [(0, .ref a0.1), (1, .int i0)] _ [.int r1, .ref a0.1] rfl rfl rfl rfl ?_
  refine v_iconst (v := 1) (pc2 := 7) S dX4_doorOfDeed_6 (by decide) rfl ?_
  refine v_iadd (pc2 := 8) S dX4_doorOfDeed_7 rfl ?_
  refine v_callV (pc2 := 11) (As := [.int (r1 + (1 : Int32))]) (rest := []) S (c_X4_codeAt l G a0 v0 (r1 + (1 : Int32)) _ hw) mf_X4_codeAt u_697 u_699 u_16 0 4 rfl rfl rfl rfl ⟨rfl, rfl⟩ ⟨Nat.le_of_ble_eq_true rfl, Nat.le_of_ble_eq_true rfl⟩ ⟨Nat.le_of_ble_eq_true rfl, Nat.le_of_ble_eq_true rfl⟩ (Nat.le_of_ble_eq_true rfl) dX4_doorOfDeed_8 (frW _) rfl (pi (fun r3 u4 hw => ?_))
  refine v_to (wPad G a0 v0.1 v0.2) 11 [(0, .ref a0.1), (1, .int i0)] _ [.int r3] rfl rfl rfl rfl ?_
  refine v_bipush (v := 48) (pc2 := 13) S dX4_doorOfDeed_11 (by decide) rfl ?_
  refine v_isub (pc2 := 14) S dX4_doorOfDeed_13 rfl ?_
  exact v_iret S ⟨r3 - (48 : Int32), (), rfl, rfl, hw⟩ dX4_doorOfDeed_14
set_option maxHeartbeats 4000000 in
set_option maxRecDepth 100000 in
theorem c_X4_placeOfNextDeed (l : Launch) (G : GG) (a0 : PadA) (v0 : PadV) (i0 : Int32) (Q : Int32 → Prop) (hw : wp_X4_placeOfNextDeed v0 i0 Q) : Con l G yX4_placeOfNextDeed cX4_placeOfNextDeed 2 (some .int) { frames := 3, cells := 0, slots := 0, locals := 63 } [.ref a0.1, .int i0] (wPad G a0 v0.1 v0.2) (PI (fun _ : Unit => wPad G a0 v0.1 v0.2) (fun r _ => Q r)) 0 0 := by
  refine con_of RX4 rfl (by decide) [(0, .ref a0.1), (1, .int i0)] rfl (Nat.le_of_ble_eq_true rfl) ?_
  intro p e s m args below meth c S hname
  refine v_aload_n (pc2 := 1) S 0 dX4_placeOfNextDeed_0 rfl rfl rfl ?_
  refine v_iload_n (pc2 := 2) S 1 dX4_placeOfNextDeed_1 rfl rfl rfl ?_
  refine v_callV (pc2 := 5) (As := [.int i0]) (rest := []) S (c_X4_placeOfLetter l G a0 v0 i0 _ hw) mf_X4_placeOfLetter u_718 u_720 u_18 0 4 rfl rfl rfl rfl ⟨rfl, rfl⟩ ⟨Nat.le_of_ble_eq_true rfl, Nat.le_of_ble_eq_true rfl⟩ ⟨Nat.le_of_ble_eq_true rfl, Nat.le_of_ble_eq_true rfl⟩ (Nat.le_of_ble_eq_true rfl) dX4_placeOfNextDeed_2 (frW _) rfl (pi (fun r1 u2 hw => ?_))
  refine v_to (wPad G a0 v0.1 v0.2) 5 [(0, .ref a0.1), (1, .int i0)] _ [.int r1] rfl rfl rfl rfl ?_
  refine v_iconst (v := 3) (pc2 := 6) S dX4_placeOfNextDeed_5 (by decide) rfl ?_
  refine v_iadd (pc2 := 7) S dX4_placeOfNextDeed_6 rfl ?_
  exact v_iret S ⟨r1 + (3 : Int32), (), rfl, rfl, hw⟩ dX4_placeOfNextDeed_7
set_option maxHeartbeats 4000000 in
set_option maxRecDepth 100000 in
theorem c_X6_init (l : Launch) (G : GG) (a0 : Nat) (Q : StopV → Prop) (hw : wp_X6_init Q) : Con l G yX6_init cX6_init 1 none { frames := 1, cells := 0, slots := 0, locals := 20 } [.ref a0] [(a0, .inr (6, [.int 0, .int 0, .int 0]))] (PV (fun u : StopA × StopV => wStop G u.1 u.2.1 u.2.2.1 u.2.2.2) (fun u => u.1 = a0 ∧ Q u.2)) 0 0 := by
  refine con_of RX6 rfl (by decide) [(0, .ref a0)] rfl (Nat.le_of_ble_eq_true rfl) ?_
  intro p e s m args below meth c S hname
  refine v_aload_n (pc2 := 1) S 0 dX6_init_0 rfl rfl rfl ?_
  refine v_objInit (pc2 := 4) S u_200 u_39 u_40 (Nat.le_of_ble_eq_true rfl) (Nat.le_of_ble_eq_true rfl) dX6_init_1 rfl ?_
  refine v_aload_n (pc2 := 5) S 0 dX6_init_4 rfl rfl rfl ?_
  refine v_iconst (v := 0) (pc2 := 6) S dX6_init_5 (by decide) rfl ?_
  refine v_put (ws2 := [(a0, .inr (6, [.int (0 : Int32), .int 0, .int 0]))]) (pc2 := 9) S gf_X6_9 pf_X6_0 0 rfl rfl rfl (Nat.le_of_ble_eq_true rfl) rfl dX6_init_6 rfl ?_
  refine v_aload_n (pc2 := 10) S 0 dX6_init_9 rfl rfl rfl ?_
  refine v_iconst (v := 0) (pc2 := 11) S dX6_init_10 (by decide) rfl ?_
  refine v_put (ws2 := [(a0, .inr (6, [.int (0 : Int32), .int (0 : Int32), .int 0]))]) (pc2 := 14) S gf_X6_15 pf_X6_1 0 rfl rfl rfl (Nat.le_of_ble_eq_true rfl) rfl dX6_init_11 rfl ?_
  refine v_aload_n (pc2 := 15) S 0 dX6_init_14 rfl rfl rfl ?_
  refine v_iconst (v := 0) (pc2 := 16) S dX6_init_15 (by decide) rfl ?_
  refine v_put (ws2 := [(a0, .inr (6, [.int (0 : Int32), .int (0 : Int32), .int (0 : Int32)]))]) (pc2 := 19) S gf_X6_18 pf_X6_2 0 rfl rfl rfl (Nat.le_of_ble_eq_true rfl) rfl dX6_init_16 rfl ?_
  refine v_to (wStop G a0 (0 : Int32) (0 : Int32) (0 : Int32)) 19 [(0, .ref a0)] _ [] rfl rfl rfl rfl ?_
  exact v_vret S ⟨(a0, ((0 : Int32), (0 : Int32), (0 : Int32))), rfl, rfl, rfl, hw⟩ dX6_init_19
set_option maxHeartbeats 4000000 in
set_option maxRecDepth 100000 in
theorem c_X6_forget (l : Launch) (G : GG) (a0 : StopA) (v0 : StopV) (Q : StopV → Prop) (hw : wp_X6_forget v0 Q) : Con l G yX6_forget cX6_forget 1 none { frames := 0, cells := 0, slots := 0, locals := 0 } [.ref a0] (wStop G a0 v0.1 v0.2.1 v0.2.2) (PV (fun u : StopV => wStop G a0 u.1 u.2.1 u.2.2) Q) 0 0 := by
  refine con_of RX6 rfl (by decide) [(0, .ref a0)] rfl (Nat.le_of_ble_eq_true rfl) ?_
  intro p e s m args below meth c S hname
  refine v_aload_n (pc2 := 1) S 0 dX6_forget_0 rfl rfl rfl ?_
  refine v_iconst (v := 0) (pc2 := 2) S dX6_forget_1 (by decide) rfl ?_
  refine v_put (ws2 := wStop G a0 (0 : Int32) v0.2.1 v0.2.2) (pc2 := 5) S gf_X6_9 pf_X6_0 0 rfl rfl rfl (Nat.le_of_ble_eq_true rfl) rfl dX6_forget_2 rfl ?_
  exact v_vret S ⟨((0 : Int32), v0.2.1, v0.2.2), rfl, rfl, hw⟩ dX6_forget_5
set_option maxHeartbeats 4000000 in
set_option maxRecDepth 100000 in
theorem c_X6_remember (l : Launch) (G : GG) (a0 : StopA) (v0 : StopV) (i0 : Int32) (i1 : Int32) (i2 : Int32) (Q : StopV → Prop) (hw : wp_X6_remember v0 i0 i1 i2 Q) : Con l G yX6_remember cX6_remember 4 none { frames := 0, cells := 0, slots := 0, locals := 0 } [.ref a0, .int i0, .int i1, .int i2] (wStop G a0 v0.1 v0.2.1 v0.2.2) (PV (fun u : StopV => wStop G a0 u.1 u.2.1 u.2.2) Q) 0 0 := by
  refine con_of RX6 rfl (by decide) [(0, .ref a0), (1, .int i0), (2, .int i1), (3, .int i2)] rfl (Nat.le_of_ble_eq_true rfl) ?_
  intro p e s m args below meth c S hname
  refine v_aload_n (pc2 := 1) S 0 dX6_remember_0 rfl rfl rfl ?_
  refine v_iload_n (pc2 := 2) S 1 dX6_remember_1 rfl rfl rfl ?_
  refine v_put (ws2 := wStop G a0 i0 v0.2.1 v0.2.2) (pc2 := 5) S gf_X6_9 pf_X6_0 0 rfl rfl rfl (Nat.le_of_ble_eq_true rfl) rfl dX6_remember_2 rfl ?_
  refine v_aload_n (pc2 := 6) S 0 dX6_remember_5 rfl rfl rfl ?_
  refine v_iload_n (pc2 := 7) S 2 dX6_remember_6 rfl rfl rfl ?_
  refine v_put (ws2 := wStop G a0 i0 i1 v0.2.2) (pc2 := 10) S gf_X6_15 pf_X6_1 0 rfl rfl rfl (Nat.le_of_ble_eq_true rfl) rfl dX6_remember_7 rfl ?_
  refine v_aload_n (pc2 := 11) S 0 dX6_remember_10 rfl rfl rfl ?_
  refine v_iload_n (pc2 := 12) S 3 dX6_remember_11 rfl rfl rfl ?_
  refine v_put (ws2 := wStop G a0 i0 i1 i2) (pc2 := 15) S gf_X6_18 pf_X6_2 0 rfl rfl rfl (Nat.le_of_ble_eq_true rfl) rfl dX6_remember_12 rfl ?_
  exact v_vret S ⟨(i0, i1, i2), rfl, rfl, hw⟩ dX6_remember_15
set_option maxHeartbeats 4000000 in
set_option maxRecDepth 100000 in
theorem c_X6_happened (l : Launch) (G : GG) (a0 : StopA) (v0 : StopV) (Q : Int32 → Prop) (hw : wp_X6_happened v0 Q) : Con l G yX6_happened cX6_happened 1 (some .boolean) { frames := 0, cells := 0, slots := 0, locals := 0 } [.ref a0] (wStop G a0 v0.1 v0.2.1 v0.2.2) (PB (fun _ : Unit => wStop G a0 v0.1 v0.2.1 v0.2.2) (fun r _ => Q r)) 0 0 := by
  refine con_of RX6 rfl (by decide) [(0, .ref a0)] rfl (Nat.le_of_ble_eq_true rfl) ?_
  intro p e s m args below meth c S hname
  refine v_aload_n (pc2 := 1) S 0 dX6_happened_0 rfl rfl rfl ?_
  refine v_get (v := .int v0.1) (pc2 := 4) S gf_X6_9 0 rfl rfl dX6_happened_1 rfl ?_
  refine v_if_eq (pc2 := 7) (tgt := 11) S dX6_happened_4 (by decide) rfl (fun c1 => ?_) (fun c1 => ?_)
  · have hw := hw.1 c1
    refine v_iconst (v := 0) (pc2 := 12) S dX6_happened_11 (by decide) rfl ?_
    exact v_zret S (by decide) ⟨(0 : Int32), (), rfl, (by decide), rfl, hw⟩ dX6_happened_12
  · have hw := hw.2 c1
    refine v_iconst (v := 1) (pc2 := 8) S dX6_happened_7 (by decide) rfl ?_
    refine v_goto (tgt := 12) S dX6_happened_8 (by decide) ?_
    exact v_zret S (by decide) ⟨(1 : Int32), (), rfl, (by decide), rfl, hw⟩ dX6_happened_12
