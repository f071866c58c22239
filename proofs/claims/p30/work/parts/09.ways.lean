set_option maxHeartbeats 4000000 in
set_option maxRecDepth 100000 in
theorem c_X7_init (l : Launch) (G : GG) (a0 : Nat) (Q : WaysV → Prop) (hw : wp_X7_init Q) : Con l G yX7_init cX7_init 1 none { frames := 1, cells := 2, slots := 12288, locals := 20 } [.ref a0] [(a0, .inr (7, [.null, .null, .int 0]))] (PV (fun u : WaysA × WaysV => wWays G u.1 u.2.1 u.2.2.1 u.2.2.2) (fun u => u.1.1 = a0 ∧ Q u.2)) 2 12288 := by
  refine con_of RX7 rfl (by decide) [(0, .ref a0)] rfl (Nat.le_of_ble_eq_true rfl) ?_
  intro p e s m args below meth c S hname
  refine v_aload_n (pc2 := 1) S 0 dX7_init_0 rfl rfl rfl ?_
  refine v_objInit (pc2 := 4) S u_219 u_39 u_40 (Nat.le_of_ble_eq_true rfl) (Nat.le_of_ble_eq_true rfl) dX7_init_1 rfl ?_
  refine v_aload_n (pc2 := 5) S 0 dX7_init_4 rfl rfl rfl ?_
  refine v_sipush (v := 6144) (pc2 := 8) S dX7_init_5 (by decide) rfl ?_
  refine v_newa (pc2 := 10) (N := 6144) S u_86 (by decide) (by decide) (Nat.le_of_ble_eq_true rfl) (Nat.le_of_ble_eq_true rfl) (Nat.le_of_ble_eq_true rfl) dX7_init_8 rfl (fun q1 => ?_)
  refine v_to ([(a0, .inr (7, [.null, .null, .int 0])), (q1, .inl (G.2.1, 6144, .inl (fun _ => 0)))]) 10 [(0, .ref a0)] _ [.ref q1, .ref a0] rfl rfl rfl rfl ?_
  refine v_putF (ws2 := [(a0, .inr (7, [.ref q1, .null, .int 0])), (q1, .inl (G.2.1, 6144, .inl (fun _ => 0)))]) (pc2 := 13) S (show meth.name = "<init>" from hname) gf_X7_9 pf_X7_0 rfl 0 rfl rfl rfl (Nat.le_of_ble_eq_true rfl) rfl dX7_init_10 rfl ?_
  refine v_aload_n (pc2 := 14) S 0 dX7_init_13 rfl rfl rfl ?_
  refine v_sipush (v := 6144) (pc2 := 17) S dX7_init_14 (by decide) rfl ?_
  refine v_newa (pc2 := 19) (N := 6144) S u_86 (by decide) (by decide) (Nat.le_of_ble_eq_true rfl) (Nat.le_of_ble_eq_true rfl) (Nat.le_of_ble_eq_true rfl) dX7_init_17 rfl (fun q2 => ?_)
  refine v_to ([(a0, .inr (7, [.ref q1, .null, .int 0])), (q1, .inl (G.2.1, 6144, .inl (fun _ => 0))), (q2, .inl (G.2.1, 6144, .inl (fun _ => 0)))]) 19 [(0, .ref a0)] _ [.ref q2, .ref a0] rfl rfl rfl rfl ?_
  refine v_putF (ws2 := [(a0, .inr (7, [.ref q1, .ref q2, .int 0])), (q1, .inl (G.2.1, 6144, .inl (fun _ => 0))), (q2, .inl (G.2.1, 6144, .inl (fun _ => 0)))]) (pc2 := 22) S (show meth.name = "<init>" from hname) gf_X7_15 pf_X7_1 rfl 0 rfl rfl rfl (Nat.le_of_ble_eq_true rfl) rfl dX7_init_19 rfl ?_
  refine v_aload_n (pc2 := 23) S 0 dX7_init_22 rfl rfl rfl ?_
  refine v_iconst (v := 0) (pc2 := 24) S dX7_init_23 (by decide) rfl ?_
  refine v_put (ws2 := [(a0, .inr (7, [.ref q1, .ref q2, .int (0 : Int32)])), (q1, .inl (G.2.1, 6144, .inl (fun _ => 0))), (q2, .inl (G.2.1, 6144, .inl (fun _ => 0)))]) (pc2 := 27) S gf_X7_18 pf_X7_2 0 rfl rfl rfl (Nat.le_of_ble_eq_true rfl) rfl dX7_init_24 rfl ?_
  refine v_to (wWays G (a0, q1, q2) (fun _ => 0) (fun _ => 0) (0 : Int32)) 27 [(0, .ref (((a0, q1, q2)).1))] _ [] rfl rfl rfl rfl ?_
  exact v_vret S ⟨((a0, q1, q2), ((fun _ => 0), (fun _ => 0), (0 : Int32))), rfl, rfl, rfl, hw⟩ dX7_init_27
set_option maxHeartbeats 4000000 in
set_option maxRecDepth 100000 in
theorem c_X7_isSpot (l : Launch) (G : GG) (i0 : Int32) (Q : Int32 → Prop) (hw : wp_X7_isSpot i0 Q) : Con l G yX7_isSpot cX7_isSpot 1 (some .boolean) { frames := 0, cells := 0, slots := 0, locals := 0 } [.int i0] ([]) (PB (fun _ : Unit => []) (fun r _ => Q r)) 0 0 := by
  refine con_of RX7 rfl (by decide) [(0, .int i0)] rfl (Nat.le_of_ble_eq_true rfl) ?_
  intro p e s m args below meth c S hname
  refine v_iload_n (pc2 := 1) S 0 dX7_isSpot_0 rfl rfl rfl ?_
  refine v_if_lt (pc2 := 4) (tgt := 15) S dX7_isSpot_1 (by decide) rfl (fun c1 => ?_) (fun c1 => ?_)
  · have hw := hw.1 c1
    refine v_iconst (v := 0) (pc2 := 16) S dX7_isSpot_15 (by decide) rfl ?_
    exact v_zret S (by decide) ⟨(0 : Int32), (), rfl, (by decide), rfl, hw⟩ dX7_isSpot_16
  · have hw := hw.2 c1
    refine v_iload_n (pc2 := 5) S 0 dX7_isSpot_4 rfl rfl rfl ?_
    refine v_sipush (v := 6144) (pc2 := 8) S dX7_isSpot_5 (by decide) rfl ?_
    refine v_icmp_ge (pc2 := 11) (tgt := 15) S dX7_isSpot_8 (by decide) rfl (fun c2 => ?_) (fun c2 => ?_)
    · have hw := hw.1 c2
      refine v_iconst (v := 0) (pc2 := 16) S dX7_isSpot_15 (by decide) rfl ?_
      exact v_zret S (by decide) ⟨(0 : Int32), (), rfl, (by decide), rfl, hw⟩ dX7_isSpot_16
    · have hw := hw.2 c2
      refine v_iconst (v := 1) (pc2 := 12) S dX7_isSpot_11 (by decide) rfl ?_
      refine v_goto (tgt := 16) S dX7_isSpot_12 (by decide) ?_
      exact v_zret S (by decide) ⟨(1 : Int32), (), rfl, (by decide), rfl, hw⟩ dX7_isSpot_16
set_option maxHeartbeats 4000000 in
set_option maxRecDepth 100000 in
theorem c_X7_reach (l : Launch) (G : GG) (a0 : WaysA) (v0 : WaysV) (i0 : Int32) (i1 : Int32) (Q : WaysV → Prop) (hw : wp_X7_reach v0 i0 i1 Q) : Con l G yX7_reach cX7_reach 3 none { frames := 1, cells := 0, slots := 0, locals := 20 } [.ref a0.1, .int i0, .int i1] (wWays G a0 v0.1 v0.2.1 v0.2.2) (PV (fun u : WaysV => wWays G a0 u.1 u.2.1 u.2.2) Q) 0 0 := by
  refine con_of RX7 rfl (by decide) [(0, .ref a0.1), (1, .int i0), (2, .int i1)] rfl (Nat.le_of_ble_eq_true rfl) ?_
  intro p e s m args below meth c S hname
  refine v_iload_n (pc2 := 1) S 1 dX7_reach_0 rfl rfl rfl ?_
  refine v_callS (pc2 := 4) (As := [.int i0]) (rest := []) S (c_X7_isSpot l G i0 _ hw) mf_X7_isSpot u_338 u_339 rfl rfl ⟨rfl, rfl⟩ ⟨Nat.le_of_ble_eq_true rfl, Nat.le_of_ble_eq_true rfl⟩ ⟨Nat.le_of_ble_eq_true rfl, Nat.le_of_ble_eq_true rfl⟩ (Nat.le_of_ble_eq_true rfl) dX7_reach_1 (frM [] [] _) rfl (pb (fun r1 u2 br1 hw => ?_))
  refine v_to (wWays G a0 v0.1 v0.2.1 v0.2.2) 4 [(0, .ref a0.1), (1, .int i0), (2, .int i1)] _ [.int r1] rfl rfl rfl rfl ?_
  refine v_if_eq (pc2 := 7) (tgt := 56) S dX7_reach_4 (by decide) rfl (fun c3 => ?_) (fun c3 => ?_)
  · have hw := hw.1 c3
    exact v_vret S ⟨v0, rfl, rfl, hw⟩ dX7_reach_56
  · have hw := hw.2 c3
    refine v_aload_n (pc2 := 8) S 0 dX7_reach_7 rfl rfl rfl ?_
    refine v_get (v := .ref a0.2.1) (pc2 := 11) S gf_X7_9 0 rfl rfl dX7_reach_8 rfl ?_
    refine v_iload_n (pc2 := 12) S 1 dX7_reach_11 rfl rfl rfl ?_
    obtain ⟨h4, hw⟩ := hw
    refine v_iald (pc2 := 13) S 1 rfl h4 dX7_reach_12 rfl ?_
    refine v_sipush (v := 6144) (pc2 := 16) S dX7_reach_13 (by decide) rfl ?_
    refine v_icmp_ne (pc2 := 19) (tgt := 56) S dX7_reach_16 (by decide) rfl (fun c5 => ?_) (fun c5 => ?_)
    · have hw := hw.1 c5
      exact v_vret S ⟨v0, rfl, rfl, hw⟩ dX7_reach_56
    · have hw := hw.2 c5
      refine v_aload_n (pc2 := 20) S 0 dX7_reach_19 rfl rfl rfl ?_
      refine v_get (v := .int v0.2.2) (pc2 := 23) S gf_X7_18 0 rfl rfl dX7_reach_20 rfl ?_
      refine v_sipush (v := 6144) (pc2 := 26) S dX7_reach_23 (by decide) rfl ?_
      refine v_icmp_ge (pc2 := 29) (tgt := 56) S dX7_reach_26 (by decide) rfl (fun c6 => ?_) (fun c6 => ?_)
      · have hw := hw.1 c6
        exact v_vret S ⟨v0, rfl, rfl, hw⟩ dX7_reach_56
      · have hw := hw.2 c6
        refine v_aload_n (pc2 := 30) S 0 dX7_reach_29 rfl rfl rfl ?_
        refine v_get (v := .ref a0.2.1) (pc2 := 33) S gf_X7_9 0 rfl rfl dX7_reach_30 rfl ?_
        refine v_iload_n (pc2 := 34) S 1 dX7_reach_33 rfl rfl rfl ?_
        refine v_iload_n (pc2 := 35) S 2 dX7_reach_34 rfl rfl rfl ?_
        obtain ⟨h7, hw⟩ := hw
        obtain ⟨g8, eg8⟩ : ∃ y : Nat → Int32, y = upd v0.1 i0.toNatClampNeg i1 := ⟨_, rfl⟩
        have hw := hw g8 eg8
        refine v_iast (ws2 := wWays G a0 g8 v0.2.1 v0.2.2) (pc2 := 36) S 1 rfl h7 (by rw [eg8] <;> rfl) dX7_reach_35 rfl ?_
        refine v_aload_n (pc2 := 37) S 0 dX7_reach_36 rfl rfl rfl ?_
        refine v_get (v := .ref a0.2.2) (pc2 := 40) S gf_X7_15 0 rfl rfl dX7_reach_37 rfl ?_
        refine v_aload_n (pc2 := 41) S 0 dX7_reach_40 rfl rfl rfl ?_
        refine v_get (v := .int v0.2.2) (pc2 := 44) S gf_X7_18 0 rfl rfl dX7_reach_41 rfl ?_
        refine v_iload_n (pc2 := 45) S 1 dX7_reach_44 rfl rfl rfl ?_
        obtain ⟨h9, hw⟩ := hw
        obtain ⟨g10, eg10⟩ : ∃ y : Nat → Int32, y = upd v0.2.1 v0.2.2.toNatClampNeg i0 := ⟨_, rfl⟩
        have hw := hw g10 eg10
        refine v_iast (ws2 := wWays G a0 g8 g10 v0.2.2) (pc2 := 46) S 2 rfl h9 (by rw [eg10] <;> rfl) dX7_reach_45 rfl ?_
        refine v_aload_n (pc2 := 47) S 0 dX7_reach_46 rfl rfl rfl ?_
        refine v_dup (pc2 := 48) S dX7_reach_47 rfl rfl ?_
        refine v_get (v := .int v0.2.2) (pc2 := 51) S gf_X7_18 0 rfl rfl dX7_reach_48 rfl ?_
        refine v_iconst (v := 1) (pc2 := 52) S dX7_reach_51 (by decide) rfl ?_
        refine v_iadd (pc2 := 53) S dX7_reach_52 rfl ?_
        refine v_nm (fun z11 ez11 => ?_)
        have hw := hw z11 ez11
        refine v_put (ws2 := wWays G a0 g8 g10 z11) (pc2 := 56) S gf_X7_18 pf_X7_2 0 rfl rfl rfl (Nat.le_of_ble_eq_true rfl) rfl dX7_reach_53 rfl ?_
        exact v_vret S ⟨(g8, g10, z11), rfl, rfl, hw⟩ dX7_reach_56
set_option maxHeartbeats 4000000 in
set_option maxRecDepth 100000 in
theorem c_X7_fewestOf (l : Launch) (G : GG) (a0 : WaysA) (v0 : WaysV) (i0 : Int32) (Q : Int32 → Prop) (hw : wp_X7_fewestOf v0 i0 Q) : Con l G yX7_fewestOf cX7_fewestOf 2 (some .int) { frames := 1, cells := 0, slots := 0, locals := 20 } [.ref a0.1, .int i0] (wWays G a0 v0.1 v0.2.1 v0.2.2) (PI (fun _ : Unit => wWays G a0 v0.1 v0.2.1 v0.2.2) (fun r _ => Q r)) 0 0 := by
  refine con_of RX7 rfl (by decide) [(0, .ref a0.1), (1, .int i0)] rfl (Nat.le_of_ble_eq_true rfl) ?_
  intro p e s m args below meth c S hname
  refine v_iload_n (pc2 := 1) S 1 dX7_fewestOf_0 rfl rfl rfl ?_
  refine v_callS (pc2 := 4) (As := [.int i0]) (rest := []) S (c_X7_isSpot l G i0 _ hw) mf_X7_isSpot u_338 u_339 rfl rfl ⟨rfl, rfl⟩ ⟨Nat.le_of_ble_eq_true rfl, Nat.le_of_ble_eq_true rfl⟩ ⟨Nat.le_of_ble_eq_true rfl, Nat.le_of_ble_eq_true rfl⟩ (Nat.le_of_ble_eq_true rfl) dX7_fewestOf_1 (frM [] [] _) rfl (pb (fun r1 u2 br1 hw => ?_))
  refine v_to (wWays G a0 v0.1 v0.2.1 v0.2.2) 4 [(0, .ref a0.1), (1, .int i0)] _ [.int r1] rfl rfl rfl rfl ?_
  refine v_if_eq (pc2 := 7) (tgt := 16) S dX7_fewestOf_4 (by decide) rfl (fun c3 => ?_) (fun c3 => ?_)
  · have hw := hw.1 c3
    refine v_sipush (v := 6144) (pc2 := 19) S dX7_fewestOf_16 (by decide) rfl ?_
    exact v_iret S ⟨(6144 : Int32), (), rfl, rfl, hw⟩ dX7_fewestOf_19
  · have hw := hw.2 c3
    refine v_aload_n (pc2 := 8) S 0 dX7_fewestOf_7 rfl rfl rfl ?_
    refine v_get (v := .ref a0.2.1) (pc2 := 11) S gf_X7_9 0 rfl rfl dX7_fewestOf_8 rfl ?_
    refine v_iload_n (pc2 := 12) S 1 dX7_fewestOf_11 rfl rfl rfl ?_
    obtain ⟨h4, hw⟩ := hw
    refine v_iald (pc2 := 13) S 1 rfl h4 dX7_fewestOf_12 rfl ?_
    refine v_goto (tgt := 19) S dX7_fewestOf_13 (by decide) ?_
    exact v_iret S ⟨v0.1 i0.toNatClampNeg, (), rfl, rfl, hw⟩ dX7_fewestOf_19
set_option maxHeartbeats 4000000 in
set_option maxRecDepth 100000 in
theorem c_X7_goOnFrom (l : Launch) (G : GG) (a0 : WaysA) (a1 : LoomA) (v0 : WaysV) (v1 : LoomV) (i0 : Int32) (i1 : Int32) (i2 : Int32) (Q : WaysV → Prop) (hw : wp_X7_goOnFrom v0 v1 i0 i1 i2 Q) : Con l G yX7_goOnFrom cX7_goOnFrom 9 none { frames := 4, cells := 0, slots := 0, locals := 91 } [.ref a0.1, .ref a1.1, .int i0, .int i1, .int i2] (wWays G a0 v0.1 v0.2.1 v0.2.2 ++ wLoom G a1 v1.1 v1.2.1 v1.2.2.1 v1.2.2.2.1 v1.2.2.2.2.1 v1.2.2.2.2.2) (PV (fun u : WaysV => wWays G a0 u.1 u.2.1 u.2.2 ++ wLoom G a1 v1.1 v1.2.1 v1.2.2.1 v1.2.2.2.1 v1.2.2.2.2.1 v1.2.2.2.2.2) Q) 0 0 := by
  refine con_of RX7 rfl (by decide) [(0, .ref a0.1), (1, .ref a1.1), (2, .int i0), (3, .int i1), (4, .int i2)] rfl (Nat.le_of_ble_eq_true rfl) ?_
  intro p e s m args below meth c S hname
  have L32 : ∀ (x4 : Int32) (x5 : Int32) (x6 : Int32) (x7 : Int32) (kk : Nat) (x8 : Int32) (w0 : WaysV), wp_X7_goOnFrom_L32 v1 x4 x5 x6 x7 Q kk x8 w0 → V p l e { frames := 4, cells := 0, slots := 0, locals := 91 } s m args below meth c G (va_A (wWays G a0 v0.1 v0.2.1 v0.2.2 ++ wLoom G a1 v1.1 v1.2.1 v1.2.2.1 v1.2.2.2.1 v1.2.2.2.2.1 v1.2.2.2.2.2) s.heap.size) 9 0 0 (MQ below (EQ G (wWays G a0 v0.1 v0.2.1 v0.2.2 ++ wLoom G a1 v1.1 v1.2.1 v1.2.2.1 v1.2.2.2.1 v1.2.2.2.2.1 v1.2.2.2.2.2) s.heap.size (PV (fun u : WaysV => wWays G a0 u.1 u.2.1 u.2.2 ++ wLoom G a1 v1.1 v1.2.1 v1.2.2.1 v1.2.2.2.1 v1.2.2.2.2.1 v1.2.2.2.2.2) Q)) args s 0 0 (va_A (wWays G a0 v0.1 v0.2.1 v0.2.2 ++ wLoom G a1 v1.1 v1.2.1 v1.2.2.1 v1.2.2.2.1 v1.2.2.2.2.1 v1.2.2.2.2.2) s.heap.size)) (wWays G a0 w0.1 w0.2.1 w0.2.2 ++ wLoom G a1 v1.1 v1.2.1 v1.2.2.1 v1.2.2.2.1 v1.2.2.2.2.1 v1.2.2.2.2.2) 32 [(0, .ref a0.1), (1, .ref a1.1), (4, .int x4), (5, .int x5), (6, .int x6), (7, .int x7), (8, .int x8)] [] := by
    intro x4 x5 x6 x7 kk
    induction kk with
    | zero => intro x8 w0 hw; exact hw.elim
    | succ n ih =>
      intro x8 w0 hw
      refine v_iload (pc2 := 34) S 6 dX7_goOnFrom_32 rfl rfl ?_
      refine v_bipush (v := 10) (pc2 := 36) S dX7_goOnFrom_34 (by decide) rfl ?_
      refine v_icmp_ge (pc2 := 39) (tgt := 138) S dX7_goOnFrom_36 (by decide) rfl (fun c6 => ?_) (fun c6 => ?_)
      · have hw := hw.1 c6
        exact v_vret S ⟨w0, rfl, rfl, hw⟩ dX7_goOnFrom_138
      · have hw := hw.2 c6
        refine v_aload_n (pc2 := 40) S 1 dX7_goOnFrom_39 rfl rfl rfl ?_
        refine v_iload (pc2 := 42) S 6 dX7_goOnFrom_40 rfl rfl ?_
        refine v_iload (pc2 := 44) S 4 dX7_goOnFrom_42 rfl rfl ?_
        refine v_callV (pc2 := 47) (As := [.int x8, .int x6]) (rest := []) S (c_X3_joins l G a1 v1 x8 x6 _ hw) mf_X3_joins u_350 u_272 u_273 0 3 rfl rfl rfl rfl ⟨rfl, rfl⟩ ⟨Nat.le_of_ble_eq_true rfl, Nat.le_of_ble_eq_true rfl⟩ ⟨Nat.le_of_ble_eq_true rfl, Nat.le_of_ble_eq_true rfl⟩ (Nat.le_of_ble_eq_true rfl) dX7_goOnFrom_44 (frM (wWays G a0 w0.1 w0.2.1 w0.2.2) (wLoom G a1 v1.1 v1.2.1 v1.2.2.1 v1.2.2.2.1 v1.2.2.2.2.1 v1.2.2.2.2.2) ([])) rfl (pb (fun r7 u8 br7 hw => ?_))
        refine v_to (wWays G a0 w0.1 w0.2.1 w0.2.2 ++ wLoom G a1 v1.1 v1.2.1 v1.2.2.1 v1.2.2.2.1 v1.2.2.2.2.1 v1.2.2.2.2.2) 47 [(0, .ref a0.1), (1, .ref a1.1), (4, .int x4), (5, .int x5), (6, .int x6), (7, .int x7), (8, .int x8)] _ [.int r7] rfl rfl rfl rfl ?_
        refine v_if_ne (pc2 := 50) (tgt := 53) S dX7_goOnFrom_47 (by decide) rfl (fun c9 => ?_) (fun c9 => ?_)
        · have hw := hw.1 c9
          refine v_iload (pc2 := 55) S 3 dX7_goOnFrom_53 rfl rfl ?_
          refine v_iload (pc2 := 57) S 6 dX7_goOnFrom_55 rfl rfl ?_
          refine v_callSN (pc2 := 60) (As := [.int x5, .int x8]) (rest := []) S (c_X8_has l G x5 x8 _ hw) mf_X8_has u_351 u_276 rfl rfl ⟨rfl, rfl⟩ ⟨Nat.le_of_ble_eq_true rfl, Nat.le_of_ble_eq_true rfl⟩ ⟨Nat.le_of_ble_eq_true rfl, Nat.le_of_ble_eq_true rfl⟩ (Nat.le_of_ble_eq_true rfl) dX7_goOnFrom_57 (frM [] [] _) rfl (pb (fun r10 u11 br10 hw => ?_))
          refine v_to (wWays G a0 w0.1 w0.2.1 w0.2.2 ++ wLoom G a1 v1.1 v1.2.1 v1.2.2.1 v1.2.2.2.1 v1.2.2.2.2.1 v1.2.2.2.2.2) 60 [(0, .ref a0.1), (1, .ref a1.1), (4, .int x4), (5, .int x5), (6, .int x6), (7, .int x7), (8, .int x8)] _ [.int r10] rfl rfl rfl rfl ?_
          refine v_if_eq (pc2 := 63) (tgt := 103) S dX7_goOnFrom_60 (by decide) rfl (fun c12 => ?_) (fun c12 => ?_)
          · have hw := hw.1 c12
            refine v_iload (pc2 := 105) S 5 dX7_goOnFrom_103 rfl rfl ?_
            refine v_iload (pc2 := 107) S 6 dX7_goOnFrom_105 rfl rfl ?_
            refine v_callSN (pc2 := 110) (As := [.int x7, .int x8]) (rest := []) S (c_X8_has l G x7 x8 _ hw) mf_X8_has u_351 u_276 rfl rfl ⟨rfl, rfl⟩ ⟨Nat.le_of_ble_eq_true rfl, Nat.le_of_ble_eq_true rfl⟩ ⟨Nat.le_of_ble_eq_true rfl, Nat.le_of_ble_eq_true rfl⟩ (Nat.le_of_ble_eq_true rfl) dX7_goOnFrom_107 (frM [] [] _) rfl (pb (fun r13 u14 br13 hw => ?_))
            refine v_to (wWays G a0 w0.1 w0.2.1 w0.2.2 ++ wLoom G a1 v1.1 v1.2.1 v1.2.2.1 v1.2.2.2.1 v1.2.2.2.2.1 v1.2.2.2.2.2) 110 [(0, .ref a0.1), (1, .ref a1.1), (4, .int x4), (5, .int x5), (6, .int x6), (7, .int x7), (8, .int x8)] _ [.int r13] rfl rfl rfl rfl ?_
            refine v_if_eq (pc2 := 113) (tgt := 132) S dX7_goOnFrom_110 (by decide) rfl (fun c15 => ?_) (fun c15 => ?_)
            · have hw := hw.1 c15
              obtain ⟨z16, ez16⟩ : ∃ y : Int32, y = x8 + (1 : Int32) := ⟨_, rfl⟩
              have hw := hw z16 ez16
              refine v_iinc (v := z16) (lv2 := [(0, .ref a0.1), (1, .ref a1.1), (4, .int x4), (5, .int x5), (6, .int x6), (7, .int x7), (8, .int z16)]) (pc2 := 135) S 6 dX7_goOnFrom_132 rfl (by rw [ez16]; rfl) (by decide) [1, 2, 3, 4, 5, 6, 0] rfl rfl ?_
              refine v_goto (tgt := 32) S dX7_goOnFrom_135 (by decide) ?_
              exact ih z16 w0 hw
            · have hw := hw.2 c15
              refine v_aload_n (pc2 := 114) S 0 dX7_goOnFrom_113 rfl rfl rfl ?_
              refine v_aload_n (pc2 := 115) S 1 dX7_goOnFrom_114 rfl rfl rfl ?_
              refine v_iload (pc2 := 117) S 3 dX7_goOnFrom_115 rfl rfl ?_
              refine v_iload (pc2 := 119) S 6 dX7_goOnFrom_117 rfl rfl ?_
              refine v_callV (pc2 := 122) (As := [.int x5, .int x8]) (rest := [.ref a0.1]) S (c_X3_afterOpening l G a1 v1 x5 x8 _ hw) mf_X3_afterOpening u_358 u_359 u_360 0 3 rfl rfl rfl rfl ⟨rfl, rfl⟩ ⟨Nat.le_of_ble_eq_true rfl, Nat.le_of_ble_eq_true rfl⟩ ⟨Nat.le_of_ble_eq_true rfl, Nat.le_of_ble_eq_true rfl⟩ (Nat.le_of_ble_eq_true rfl) dX7_goOnFrom_119 (frM (wWays G a0 w0.1 w0.2.1 w0.2.2) (wLoom G a1 v1.1 v1.2.1 v1.2.2.1 v1.2.2.2.1 v1.2.2.2.2.1 v1.2.2.2.2.2) ([])) rfl (pi (fun r17 u18 hw => ?_))
              refine v_to (wWays G a0 w0.1 w0.2.1 w0.2.2 ++ wLoom G a1 v1.1 v1.2.1 v1.2.2.1 v1.2.2.2.1 v1.2.2.2.2.1 v1.2.2.2.2.2) 122 [(0, .ref a0.1), (1, .ref a1.1), (4, .int x4), (5, .int x5), (6, .int x6), (7, .int x7), (8, .int x8)] _ [.int r17, .ref a0.1] rfl rfl rfl rfl ?_
              refine v_iload (pc2 := 124) S 4 dX7_goOnFrom_122 rfl rfl ?_
              refine v_callSN (pc2 := 127) (As := [.int r17, .int x6]) (rest := [.ref a0.1]) S (c_X8_spot l G r17 x6 _ hw) mf_X8_spot u_356 u_325 rfl rfl ⟨rfl, rfl⟩ ⟨Nat.le_of_ble_eq_true rfl, Nat.le_of_ble_eq_true rfl⟩ ⟨Nat.le_of_ble_eq_true rfl, Nat.le_of_ble_eq_true rfl⟩ (Nat.le_of_ble_eq_true rfl) dX7_goOnFrom_124 (frM [] [] _) rfl (pi (fun r19 u20 hw => ?_))
              refine v_to (wWays G a0 w0.1 w0.2.1 w0.2.2 ++ wLoom G a1 v1.1 v1.2.1 v1.2.2.1 v1.2.2.2.1 v1.2.2.2.2.1 v1.2.2.2.2.2) 127 [(0, .ref a0.1), (1, .ref a1.1), (4, .int x4), (5, .int x5), (6, .int x6), (7, .int x7), (8, .int x8)] _ [.int r19, .ref a0.1] rfl rfl rfl rfl ?_
              refine v_iload (pc2 := 129) S 2 dX7_goOnFrom_127 rfl rfl ?_
              refine v_callV (pc2 := 132) (As := [.int r19, .int x4]) (rest := []) S (c_X7_reach l G a0 w0 r19 x4 _ hw) mf_X7_reach u_334 u_336 u_3 0 7 rfl rfl rfl rfl ⟨rfl, rfl⟩ ⟨Nat.le_of_ble_eq_true rfl, Nat.le_of_ble_eq_true rfl⟩ ⟨Nat.le_of_ble_eq_true rfl, Nat.le_of_ble_eq_true rfl⟩ (Nat.le_of_ble_eq_true rfl) dX7_goOnFrom_129 (frM ([]) (wWays G a0 w0.1 w0.2.1 w0.2.2) (wLoom G a1 v1.1 v1.2.1 v1.2.2.1 v1.2.2.2.1 v1.2.2.2.2.1 v1.2.2.2.2.2)) rfl (pv (fun u22 hw => ?_))
              refine v_to (wWays G a0 u22.1 u22.2.1 u22.2.2 ++ wLoom G a1 v1.1 v1.2.1 v1.2.2.1 v1.2.2.2.1 v1.2.2.2.2.1 v1.2.2.2.2.2) 132 [(0, .ref a0.1), (1, .ref a1.1), (4, .int x4), (5, .int x5), (6, .int x6), (7, .int x7), (8, .int x8)] _ [] rfl rfl rfl rfl ?_
              obtain ⟨z23, ez23⟩ : ∃ y : Int32, y = x8 + (1 : Int32) := ⟨_, rfl⟩
              have hw := hw z23 ez23
              refine v_iinc (v := z23) (lv2 := [(0, .ref a0.1), (1, .ref a1.1), (4, .int x4), (5, .int x5), (6, .int x6), (7, .int x7), (8, .int z23)]) (pc2 := 135) S 6 dX7_goOnFrom_132 rfl (by rw [ez23]; rfl) (by decide) [1, 2, 3, 4, 5, 6, 0] rfl rfl ?_
              refine v_goto (tgt := 32) S dX7_goOnFrom_135 (by decide) ?_
              exact ih z23 u22 hw
          · have hw := hw.2 c12
            refine v_aload_n (pc2 := 64) S 0 dX7_goOnFrom_63 rfl rfl rfl ?_
            refine v_iload (pc2 := 66) S 3 dX7_goOnFrom_64 rfl rfl ?_
            refine v_aload_n (pc2 := 67) S 1 dX7_goOnFrom_66 rfl rfl rfl ?_
            refine v_iload (pc2 := 69) S 6 dX7_goOnFrom_67 rfl rfl ?_
            refine v_iload (pc2 := 71) S 4 dX7_goOnFrom_69 rfl rfl ?_
            refine v_callV (pc2 := 74) (As := [.int x8, .int x6]) (rest := [.int x5, .ref a0.1]) S (c_X3_otherHall l G a1 v1 x8 x6 _ hw) mf_X3_otherHall u_352 u_353 u_354 0 3 rfl rfl rfl rfl ⟨rfl, rfl⟩ ⟨Nat.le_of_ble_eq_true rfl, Nat.le_of_ble_eq_true rfl⟩ ⟨Nat.le_of_ble_eq_true rfl, Nat.le_of_ble_eq_true rfl⟩ (Nat.le_of_ble_eq_true rfl) dX7_goOnFrom_71 (frM (wWays G a0 w0.1 w0.2.1 w0.2.2) (wLoom G a1 v1.1 v1.2.1 v1.2.2.1 v1.2.2.2.1 v1.2.2.2.2.1 v1.2.2.2.2.2) ([])) rfl (pi (fun r24 u25 hw => ?_))
            refine v_to (wWays G a0 w0.1 w0.2.1 w0.2.2 ++ wLoom G a1 v1.1 v1.2.1 v1.2.2.1 v1.2.2.2.1 v1.2.2.2.2.1 v1.2.2.2.2.2) 74 [(0, .ref a0.1), (1, .ref a1.1), (4, .int x4), (5, .int x5), (6, .int x6), (7, .int x7), (8, .int x8)] _ [.int r24, .int x5, .ref a0.1] rfl rfl rfl rfl ?_
            refine v_callSN (pc2 := 77) (As := [.int x5, .int r24]) (rest := [.ref a0.1]) S (c_X8_spot l G x5 r24 _ hw) mf_X8_spot u_356 u_325 rfl rfl ⟨rfl, rfl⟩ ⟨Nat.le_of_ble_eq_true rfl, Nat.le_of_ble_eq_true rfl⟩ ⟨Nat.le_of_ble_eq_true rfl, Nat.le_of_ble_eq_true rfl⟩ (Nat.le_of_ble_eq_true rfl) dX7_goOnFrom_74 (frM [] [] _) rfl (pi (fun r26 u27 hw => ?_))
            refine v_to (wWays G a0 w0.1 w0.2.1 w0.2.2 ++ wLoom G a1 v1.1 v1.2.1 v1.2.2.1 v1.2.2.2.1 v1.2.2.2.2.1 v1.2.2.2.2.2) 77 [(0, .ref a0.1), (1, .ref a1.1), (4, .int x4), (5, .int x5), (6, .int x6), (7, .int x7), (8, .int x8)] _ [.int r26, .ref a0.1] rfl rfl rfl rfl ?_
            refine v_iload (pc2 := 79) S 2 dX7_goOnFrom_77 rfl rfl ?_
            refine v_callV (pc2 := 82) (As := [.int r26, .int x4]) (rest := []) S (c_X7_reach l G a0 w0 r26 x4 _ hw) mf_X7_reach u_334 u_336 u_3 0 7 rfl rfl rfl rfl ⟨rfl, rfl⟩ ⟨Nat.le_of_ble_eq_true rfl, Nat.le_of_ble_eq_true rfl⟩ ⟨Nat.le_of_ble_eq_true rfl, Nat.le_of_ble_eq_true rfl⟩ (Nat.le_of_ble_eq_true rfl) dX7_goOnFrom_79 (frM ([]) (wWays G a0 w0.1 w0.2.1 w0.2.2) (wLoom G a1 v1.1 v1.2.1 v1.2.2.1 v1.2.2.2.1 v1.2.2.2.2.1 v1.2.2.2.2.2)) rfl (pv (fun u29 hw => ?_))
            refine v_to (wWays G a0 u29.1 u29.2.1 u29.2.2 ++ wLoom G a1 v1.1 v1.2.1 v1.2.2.1 v1.2.2.2.1 v1.2.2.2.2.1 v1.2.2.2.2.2) 82 [(0, .ref a0.1), (1, .ref a1.1), (4, .int x4), (5, .int x5), (6, .int x6), (7, .int x7), (8, .int x8)] _ [] rfl rfl rfl rfl ?_
            refine v_aload_n (pc2 := 83) S 0 dX7_goOnFrom_82 rfl rfl rfl ?_
            refine v_iload (pc2 := 85) S 3 dX7_goOnFrom_83 rfl rfl ?_
            refine v_iload (pc2 := 87) S 6 dX7_goOnFrom_85 rfl rfl ?_
            refine v_callSN (pc2 := 90) (As := [.int x5, .int x8]) (rest := [.ref a0.1]) S (c_X8_without l G x5 x8 _ hw) mf_X8_without u_357 u_58 rfl rfl ⟨rfl, rfl⟩ ⟨Nat.le_of_ble_eq_true rfl, Nat.le_of_ble_eq_true rfl⟩ ⟨Nat.le_of_ble_eq_true rfl, Nat.le_of_ble_eq_true rfl⟩ (Nat.le_of_ble_eq_true rfl) dX7_goOnFrom_87 (frM [] [] _) rfl (pi (fun r30 u31 hw => ?_))
            refine v_to (wWays G a0 u29.1 u29.2.1 u29.2.2 ++ wLoom G a1 v1.1 v1.2.1 v1.2.2.1 v1.2.2.2.1 v1.2.2.2.2.1 v1.2.2.2.2.2) 90 [(0, .ref a0.1), (1, .ref a1.1), (4, .int x4), (5, .int x5), (6, .int x6), (7, .int x7), (8, .int x8)] _ [.int r30, .ref a0.1] rfl rfl rfl rfl ?_
            refine v_iload (pc2 := 92) S 4 dX7_goOnFrom_90 rfl rfl ?_
            refine v_callSN (pc2 := 95) (As := [.int r30, .int x6]) (rest := [.ref a0.1]) S (c_X8_spot l G r30 x6 _ hw) mf_X8_spot u_356 u_325 rfl rfl ⟨rfl, rfl⟩ ⟨Nat.le_of_ble_eq_true rfl, Nat.le_of_ble_eq_true rfl⟩ ⟨Nat.le_of_ble_eq_true rfl, Nat.le_of_ble_eq_true rfl⟩ (Nat.le_of_ble_eq_true rfl) dX7_goOnFrom_92 (frM [] [] _) rfl (pi (fun r32 u33 hw => ?_))
            refine v_to (wWays G a0 u29.1 u29.2.1 u29.2.2 ++ wLoom G a1 v1.1 v1.2.1 v1.2.2.1 v1.2.2.2.1 v1.2.2.2.2.1 v1.2.2.2.2.2) 95 [(0, .ref a0.1), (1, .ref a1.1), (4, .int x4), (5, .int x5), (6, .int x6), (7, .int x7), (8, .int x8)] _ [.int r32, .ref a0.1] rfl rfl rfl rfl ?_
            refine v_iload (pc2 := 97) S 2 dX7_goOnFrom_95 rfl rfl ?_
            refine v_callV (pc2 := 100) (As := [.int r32, .int x4]) (rest := []) S (c_X7_reach l G a0 u29 r32 x4 _ hw) mf_X7_reach u_334 u_336 u_3 0 7 rfl rfl rfl rfl ⟨rfl, rfl⟩ ⟨Nat.le_of_ble_eq_true rfl, Nat.le_of_ble_eq_true rfl⟩ ⟨Nat.le_of_ble_eq_true rfl, Nat.le_of_ble_eq_true rfl⟩ (Nat.le_of_ble_eq_true rfl) dX7_goOnFrom_97 (frM ([]) (wWays G a0 u29.1 u29.2.1 u29.2.2) (wLoom G a1 v1.1 v1.2.1 v1.2.2.1 v1.2.2.2.1 v1.2.2.2.2.1 v1.2.2.2.2.2)) rfl (pv (fun u35 hw => ?_))
            refine v_to (wWays G a0 u35.1 u35.2.1 u35.2.2 ++ wLoom G a1 v1.1 v1.2.1 v1.2.2.1 v1.2.2.2.1 v1.2.2.2.2.1 v1.2.2.2.2.2) 100 [(0, .ref a0.1), (1, .ref a1.1), (4, .int x4), (5, .int x5), (6, .int x6), (7, .int x7), (8, .int x8)] _ [] rfl rfl rfl rfl ?_
            refine v_goto (tgt := 132) S dX7_goOnFrom_100 (by decide) ?_
            obtain ⟨z36, ez36⟩ : ∃ y : Int32, y = x8 + (1 : Int32) := ⟨_, rfl⟩
            have hw := hw z36 ez36
            refine v_iinc (v := z36) (lv2 := [(0, .ref a0.1), (1, .ref a1.1), (4, .int x4), (5, .int x5), (6, .int x6), (7, .int x7), (8, .int z36)]) (pc2 := 135) S 6 dX7_goOnFrom_132 rfl (by rw [ez36]; rfl) (by decide) [1, 2, 3, 4, 5, 6, 0] rfl rfl ?_
            refine v_goto (tgt := 32) S dX7_goOnFrom_135 (by decide) ?_
            exact ih z36 u35 hw
        · have hw := hw.2 c9
          refine v_goto (tgt := 132) S dX7_goOnFrom_50 (by decide) ?_
          obtain ⟨z37, ez37⟩ : ∃ y : Int32, y = x8 + (1 : Int32) := ⟨_, rfl⟩
          have hw := hw z37 ez37
          refine v_iinc (v := z37) (lv2 := [(0, .ref a0.1), (1, .ref a1.1), (4, .int x4), (5, .int x5), (6, .int x6), (7, .int x7), (8, .int z37)]) (pc2 := 135) S 6 dX7_goOnFrom_132 rfl (by rw [ez37]; rfl) (by decide) [1, 2, 3, 4, 5, 6, 0] rfl rfl ?_
          refine v_goto (tgt := 32) S dX7_goOnFrom_135 (by decide) ?_
          exact ih z37 w0 hw
  refine v_iload_n (pc2 := 1) S 2 dX7_goOnFrom_0 rfl rfl rfl ?_
  refine v_bipush (v := 6) (pc2 := 3) S dX7_goOnFrom_1 (by decide) rfl ?_
  refine v_idiv (pc2 := 4) S (by decide) dX7_goOnFrom_3 rfl ?_
  refine v_nm (fun z1 ez1 => ?_)
  have hw := hw z1 ez1
  refine v_istore (lv2 := [(0, .ref a0.1), (1, .ref a1.1), (2, .int i0), (3, .int i1), (4, .int i2), (5, .int z1)]) (pc2 := 6) S dX7_goOnFrom_4 (by decide) [1, 2, 3, 4, 5, 0] rfl rfl ?_
  refine v_iload_n (pc2 := 7) S 2 dX7_goOnFrom_6 rfl rfl rfl ?_
  refine v_bipush (v := 6) (pc2 := 9) S dX7_goOnFrom_7 (by decide) rfl ?_
  refine v_irem (pc2 := 10) S (by decide) dX7_goOnFrom_9 rfl ?_
  refine v_nm (fun z2 ez2 => ?_)
  have hw := hw z2 ez2
  refine v_istore (lv2 := [(0, .ref a0.1), (1, .ref a1.1), (2, .int i0), (3, .int i1), (4, .int i2), (5, .int z1), (6, .int z2)]) (pc2 := 12) S dX7_goOnFrom_10 (by decide) [1, 2, 3, 4, 5, 6, 0] rfl rfl ?_
  refine v_iload_n (pc2 := 13) S 3 dX7_goOnFrom_12 rfl rfl rfl ?_
  refine v_iload (pc2 := 15) S 5 dX7_goOnFrom_13 rfl rfl ?_
  refine v_iconst (v := -1) (pc2 := 16) S dX7_goOnFrom_15 (by decide) rfl ?_
  refine v_ixor (pc2 := 17) S dX7_goOnFrom_16 rfl ?_
  refine v_iand (pc2 := 18) S dX7_goOnFrom_17 rfl ?_
  refine v_aload_n (pc2 := 19) S 1 dX7_goOnFrom_18 rfl rfl rfl ?_
  refine v_iload (pc2 := 21) S 5 dX7_goOnFrom_19 rfl rfl ?_
  refine v_callV (pc2 := 24) (As := [.int z1]) (rest := [.int (i1 &&& (z1 ^^^ (-1 : Int32)))]) S (c_X3_heldBy l G a1 v1 z1 _ hw) mf_X3_heldBy u_349 u_287 u_288 0 3 rfl rfl rfl rfl ⟨rfl, rfl⟩ ⟨Nat.le_of_ble_eq_true rfl, Nat.le_of_ble_eq_true rfl⟩ ⟨Nat.le_of_ble_eq_true rfl, Nat.le_of_ble_eq_true rfl⟩ (Nat.le_of_ble_eq_true rfl) dX7_goOnFrom_21 (frM (wWays G a0 v0.1 v0.2.1 v0.2.2) (wLoom G a1 v1.1 v1.2.1 v1.2.2.1 v1.2.2.2.1 v1.2.2.2.2.1 v1.2.2.2.2.2) ([])) rfl (pi (fun r3 u4 hw => ?_))
  refine v_to (wWays G a0 v0.1 v0.2.1 v0.2.2 ++ wLoom G a1 v1.1 v1.2.1 v1.2.2.1 v1.2.2.2.1 v1.2.2.2.2.1 v1.2.2.2.2.2) 24 [(0, .ref a0.1), (1, .ref a1.1), (2, .int i0), (3, .int i1), (4, .int i2), (5, .int z1), (6, .int z2)] _ [.int r3, .int (i1 &&& (z1 ^^^ (-1 : Int32)))] rfl rfl rfl rfl ?_
  refine v_iconst (v := -1) (pc2 := 25) S dX7_goOnFrom_24 (by decide) rfl ?_
  refine v_ixor (pc2 := 26) S dX7_goOnFrom_25 rfl ?_
  refine v_iand (pc2 := 27) S dX7_goOnFrom_26 rfl ?_
  refine v_nm (fun z5 ez5 => ?_)
  have hw := hw z5 ez5
  refine v_istore (lv2 := [(0, .ref a0.1), (1, .ref a1.1), (2, .int i0), (3, .int i1), (4, .int i2), (5, .int z1), (6, .int z2), (7, .int z5)]) (pc2 := 29) S dX7_goOnFrom_27 (by decide) [1, 2, 3, 4, 5, 6, 7, 0] rfl rfl ?_
  refine v_iconst (v := 0) (pc2 := 30) S dX7_goOnFrom_29 (by decide) rfl ?_
  refine v_istore (lv2 := [(0, .ref a0.1), (1, .ref a1.1), (2, .int i0), (3, .int i1), (4, .int i2), (5, .int z1), (6, .int z2), (7, .int z5), (8, .int (0 : Int32))]) (pc2 := 32) S dX7_goOnFrom_30 (by decide) [1, 2, 3, 4, 5, 6, 7, 8, 0] rfl rfl ?_
  refine v_lv [(0, .ref a0.1), (1, .ref a1.1), (4, .int i2), (5, .int z1), (6, .int z2), (7, .int z5), (8, .int (0 : Int32))] [0, 1, 4, 5, 6, 7, 8] rfl ?_
  obtain ⟨kk, hw⟩ := hw
  exact L32 i2 z1 z2 z5 kk (0 : Int32) v0 hw
set_option maxHeartbeats 4000000 in
set_option maxRecDepth 100000 in
theorem c_X7_fromNowOn (l : Launch) (G : GG) (a0 : WaysA) (a1 : LoomA) (v0 : WaysV) (v1 : LoomV) (i0 : Int32) (i1 : Int32) (i2 : Int32) (Q : Int32 → WaysV → Prop) (hw : wp_X7_fromNowOn v0 v1 i0 i1 i2 Q) : Con l G yX7_fromNowOn cX7_fromNowOn 8 (some .int) { frames := 5, cells := 0, slots := 0, locals := 119 } [.ref a0.1, .ref a1.1, .int i0, .int i1, .int i2] (wWays G a0 v0.1 v0.2.1 v0.2.2 ++ wLoom G a1 v1.1 v1.2.1 v1.2.2.1 v1.2.2.2.1 v1.2.2.2.2.1 v1.2.2.2.2.2) (PI (fun u : WaysV => wWays G a0 u.1 u.2.1 u.2.2 ++ wLoom G a1 v1.1 v1.2.1 v1.2.2.1 v1.2.2.2.1 v1.2.2.2.2.1 v1.2.2.2.2.2) Q) 0 0 := by
  refine con_of RX7 rfl (by decide) [(0, .ref a0.1), (1, .ref a1.1), (2, .int i0), (3, .int i1), (4, .int i2)] rfl (Nat.le_of_ble_eq_true rfl) ?_
  intro p e s m args below meth c S hname
  have L24 : ∀ (x3 : Int32) (x4 : Int32) (kk : Nat) (x5 : Int32) (w0 : WaysV), wp_X7_fromNowOn_L24 v1 x3 x4 Q kk x5 w0 → V p l e { frames := 5, cells := 0, slots := 0, locals := 119 } s m args below meth c G (va_A (wWays G a0 v0.1 v0.2.1 v0.2.2 ++ wLoom G a1 v1.1 v1.2.1 v1.2.2.1 v1.2.2.2.1 v1.2.2.2.2.1 v1.2.2.2.2.2) s.heap.size) 8 0 0 (MQ below (EQ G (wWays G a0 v0.1 v0.2.1 v0.2.2 ++ wLoom G a1 v1.1 v1.2.1 v1.2.2.1 v1.2.2.2.1 v1.2.2.2.2.1 v1.2.2.2.2.2) s.heap.size (PI (fun u : WaysV => wWays G a0 u.1 u.2.1 u.2.2 ++ wLoom G a1 v1.1 v1.2.1 v1.2.2.1 v1.2.2.2.1 v1.2.2.2.2.1 v1.2.2.2.2.2) Q)) args s 0 0 (va_A (wWays G a0 v0.1 v0.2.1 v0.2.2 ++ wLoom G a1 v1.1 v1.2.1 v1.2.2.1 v1.2.2.2.1 v1.2.2.2.2.1 v1.2.2.2.2.2) s.heap.size)) (wWays G a0 w0.1 w0.2.1 w0.2.2 ++ wLoom G a1 v1.1 v1.2.1 v1.2.2.1 v1.2.2.2.1 v1.2.2.2.2.1 v1.2.2.2.2.2) 24 [(0, .ref a0.1), (1, .ref a1.1), (3, .int x3), (4, .int x4), (5, .int x5)] [] := by
    intro x3 x4 kk
    induction kk with
    | zero => intro x5 w0 hw; exact hw.elim
    | succ n ih =>
      intro x5 w0 hw
      refine v_iload (pc2 := 26) S 4 dX7_fromNowOn_24 rfl rfl ?_
      refine v_aload_n (pc2 := 27) S 0 dX7_fromNowOn_26 rfl rfl rfl ?_
      refine v_get (v := .int w0.2.2) (pc2 := 30) S gf_X7_18 0 rfl rfl dX7_fromNowOn_27 rfl ?_
      refine v_icmp_ge (pc2 := 33) (tgt := 89) S dX7_fromNowOn_30 (by decide) rfl (fun c5 => ?_) (fun c5 => ?_)
      · have hw := hw.1 c5
        refine v_bipush (v := -4) (pc2 := 91) S dX7_fromNowOn_89 (by decide) rfl ?_
        exact v_iret S ⟨(-4 : Int32), w0, rfl, rfl, hw⟩ dX7_fromNowOn_91
      · have hw := hw.2 c5
        refine v_iload (pc2 := 35) S 4 dX7_fromNowOn_33 rfl rfl ?_
        refine v_sipush (v := 6144) (pc2 := 38) S dX7_fromNowOn_35 (by decide) rfl ?_
        refine v_icmp_ge (pc2 := 41) (tgt := 89) S dX7_fromNowOn_38 (by decide) rfl (fun c6 => ?_) (fun c6 => ?_)
        · have hw := hw.1 c6
          refine v_bipush (v := -4) (pc2 := 91) S dX7_fromNowOn_89 (by decide) rfl ?_
          exact v_iret S ⟨(-4 : Int32), w0, rfl, rfl, hw⟩ dX7_fromNowOn_91
        · have hw := hw.2 c6
          refine v_aload_n (pc2 := 42) S 0 dX7_fromNowOn_41 rfl rfl rfl ?_
          refine v_get (v := .ref a0.2.2) (pc2 := 45) S gf_X7_15 0 rfl rfl dX7_fromNowOn_42 rfl ?_
          refine v_iload (pc2 := 47) S 4 dX7_fromNowOn_45 rfl rfl ?_
          obtain ⟨h7, hw⟩ := hw
          refine v_iald (pc2 := 48) S 2 rfl h7 dX7_fromNowOn_47 rfl ?_
          refine v_nm (fun z8 ez8 => ?_)
          have hw := hw z8 ez8
          refine v_istore (lv2 := [(0, .ref a0.1), (1, .ref a1.1), (3, .int x3), (4, .int x4), (5, .int x5), (6, .int z8)]) (pc2 := 50) S dX7_fromNowOn_48 (by decide) [1, 2, 3, 4, 5, 0] rfl rfl ?_
          refine v_aload_n (pc2 := 51) S 0 dX7_fromNowOn_50 rfl rfl rfl ?_
          refine v_iload (pc2 := 53) S 5 dX7_fromNowOn_51 rfl rfl ?_
          refine v_callV (pc2 := 56) (As := [.int z8]) (rest := []) S (c_X7_fewestOf l G a0 w0 z8 _ hw) mf_X7_fewestOf u_341 u_343 u_4 0 7 rfl rfl rfl rfl ⟨rfl, rfl⟩ ⟨Nat.le_of_ble_eq_true rfl, Nat.le_of_ble_eq_true rfl⟩ ⟨Nat.le_of_ble_eq_true rfl, Nat.le_of_ble_eq_true rfl⟩ (Nat.le_of_ble_eq_true rfl) dX7_fromNowOn_53 (frM ([]) (wWays G a0 w0.1 w0.2.1 w0.2.2) (wLoom G a1 v1.1 v1.2.1 v1.2.2.1 v1.2.2.2.1 v1.2.2.2.2.1 v1.2.2.2.2.2)) rfl (pi (fun r9 u10 hw => ?_))
          refine v_to (wWays G a0 w0.1 w0.2.1 w0.2.2 ++ wLoom G a1 v1.1 v1.2.1 v1.2.2.1 v1.2.2.2.1 v1.2.2.2.2.1 v1.2.2.2.2.2) 56 [(0, .ref a0.1), (1, .ref a1.1), (3, .int x3), (4, .int x4), (5, .int x5), (6, .int z8)] _ [.int r9] rfl rfl rfl rfl ?_
          refine v_istore (lv2 := [(0, .ref a0.1), (1, .ref a1.1), (3, .int x3), (4, .int x4), (5, .int x5), (6, .int z8), (7, .int r9)]) (pc2 := 58) S dX7_fromNowOn_56 (by decide) [1, 2, 3, 4, 5, 6, 0] rfl rfl ?_
          refine v_iload (pc2 := 60) S 5 dX7_fromNowOn_58 rfl rfl ?_
          refine v_bipush (v := 6) (pc2 := 62) S dX7_fromNowOn_60 (by decide) rfl ?_
          refine v_irem (pc2 := 63) S (by decide) dX7_fromNowOn_62 rfl ?_
          refine v_iload (pc2 := 65) S 3 dX7_fromNowOn_63 rfl rfl ?_
          refine v_icmp_ne (pc2 := 68) (tgt := 71) S dX7_fromNowOn_65 (by decide) rfl (fun c11 => ?_) (fun c11 => ?_)
          · have hw := hw.1 c11
            refine v_aload_n (pc2 := 72) S 0 dX7_fromNowOn_71 rfl rfl rfl ?_
            refine v_aload_n (pc2 := 73) S 1 dX7_fromNowOn_72 rfl rfl rfl ?_
            refine v_iload (pc2 := 75) S 5 dX7_fromNowOn_73 rfl rfl ?_
            refine v_iload_n (pc2 := 76) S 2 dX7_fromNowOn_75 rfl rfl rfl ?_
            refine v_iload (pc2 := 78) S 6 dX7_fromNowOn_76 rfl rfl ?_
            refine v_iconst (v := 1) (pc2 := 79) S dX7_fromNowOn_78 (by decide) rfl ?_
            refine v_iadd (pc2 := 80) S dX7_fromNowOn_79 rfl ?_
            refine v_callV (pc2 := 83) (As := [.ref a1.1, .int z8, .int x3, .int (r9 + (1 : Int32))]) (rest := []) S (c_X7_goOnFrom l G a0 a1 w0 v1 z8 x3 (r9 + (1 : Int32)) _ hw) mf_X7_goOnFrom u_345 u_347 u_5 0 7 rfl rfl rfl rfl ⟨rfl, rfl⟩ ⟨Nat.le_of_ble_eq_true rfl, Nat.le_of_ble_eq_true rfl⟩ ⟨Nat.le_of_ble_eq_true rfl, Nat.le_of_ble_eq_true rfl⟩ (Nat.le_of_ble_eq_true rfl) dX7_fromNowOn_80 (frW _) rfl (pv (fun u13 hw => ?_))
            refine v_to (wWays G a0 u13.1 u13.2.1 u13.2.2 ++ wLoom G a1 v1.1 v1.2.1 v1.2.2.1 v1.2.2.2.1 v1.2.2.2.2.1 v1.2.2.2.2.2) 83 [(0, .ref a0.1), (1, .ref a1.1), (3, .int x3), (4, .int x4), (5, .int x5), (6, .int z8), (7, .int r9)] _ [] rfl rfl rfl rfl ?_
            obtain ⟨z14, ez14⟩ : ∃ y : Int32, y = x5 + (1 : Int32) := ⟨_, rfl⟩
            have hw := hw z14 ez14
            refine v_iinc (v := z14) (lv2 := [(0, .ref a0.1), (1, .ref a1.1), (3, .int x3), (4, .int x4), (5, .int z14), (6, .int z8), (7, .int r9)]) (pc2 := 86) S 4 dX7_fromNowOn_83 rfl (by rw [ez14]; rfl) (by decide) [1, 2, 3, 4, 0, 5, 6] rfl rfl ?_
            refine v_goto (tgt := 24) S dX7_fromNowOn_86 (by decide) ?_
            refine v_lv [(0, .ref a0.1), (1, .ref a1.1), (3, .int x3), (4, .int x4), (5, .int z14)] [0, 1, 2, 3, 4] rfl ?_
            exact ih z14 u13 hw
          · have hw := hw.2 c11
            refine v_iload (pc2 := 70) S 6 dX7_fromNowOn_68 rfl rfl ?_
            exact v_iret S ⟨r9, w0, rfl, rfl, hw⟩ dX7_fromNowOn_70
  refine v_aload_n (pc2 := 1) S 0 dX7_fromNowOn_0 rfl rfl rfl ?_
  refine v_get (v := .ref a0.2.1) (pc2 := 4) S gf_X7_9 0 rfl rfl dX7_fromNowOn_1 rfl ?_
  refine v_sipush (v := 6144) (pc2 := 7) S dX7_fromNowOn_4 (by decide) rfl ?_
  refine v_callS (pc2 := 10) (As := [.ref a0.2.1, .int (6144 : Int32)]) (rest := []) S (c_J7_fill_53178 l G 6144 a0.2.1 v0.1 (6144 : Int32) _ hw) mf_J7_fill_53178 u_331 u_332 rfl rfl ⟨rfl, rfl⟩ ⟨Nat.le_of_ble_eq_true rfl, Nat.le_of_ble_eq_true rfl⟩ ⟨Nat.le_of_ble_eq_true rfl, Nat.le_of_ble_eq_true rfl⟩ (Nat.le_of_ble_eq_true rfl) dX7_fromNowOn_7 (frM ([(a0.1, .inr (7, [.ref a0.2.1, .ref a0.2.2, .int v0.2.2]))]) ([(a0.2.1, .inl (G.2.1, 6144, .inl v0.1))]) (([(a0.2.2, .inl (G.2.1, 6144, .inl v0.2.1))] : va_W) ++ (wLoom G a1 v1.1 v1.2.1 v1.2.2.1 v1.2.2.2.1 v1.2.2.2.2.1 v1.2.2.2.2.2))) rfl (pv (fun u2 hw => ?_))
  refine v_to (wWays G a0 u2 v0.2.1 v0.2.2 ++ wLoom G a1 v1.1 v1.2.1 v1.2.2.1 v1.2.2.2.1 v1.2.2.2.2.1 v1.2.2.2.2.2) 10 [(0, .ref a0.1), (1, .ref a1.1), (2, .int i0), (3, .int i1), (4, .int i2)] _ [] rfl rfl rfl rfl ?_
  refine v_aload_n (pc2 := 11) S 0 dX7_fromNowOn_10 rfl rfl rfl ?_
  refine v_iconst (v := 0) (pc2 := 12) S dX7_fromNowOn_11 (by decide) rfl ?_
  refine v_put (ws2 := wWays G a0 u2 v0.2.1 (0 : Int32) ++ wLoom G a1 v1.1 v1.2.1 v1.2.2.1 v1.2.2.2.1 v1.2.2.2.2.1 v1.2.2.2.2.2) (pc2 := 15) S gf_X7_18 pf_X7_2 0 rfl rfl rfl (Nat.le_of_ble_eq_true rfl) rfl dX7_fromNowOn_12 rfl ?_
  refine v_aload_n (pc2 := 16) S 0 dX7_fromNowOn_15 rfl rfl rfl ?_
  refine v_iload_n (pc2 := 17) S 2 dX7_fromNowOn_16 rfl rfl rfl ?_
  refine v_iconst (v := 0) (pc2 := 18) S dX7_fromNowOn_17 (by decide) rfl ?_
  refine v_callV (pc2 := 21) (As := [.int i0, .int (0 : Int32)]) (rest := []) S (c_X7_reach l G a0 (u2, v0.2.1, (0 : Int32)) i0 (0 : Int32) _ hw) mf_X7_reach u_334 u_336 u_3 0 7 rfl rfl rfl rfl ⟨rfl, rfl⟩ ⟨Nat.le_of_ble_eq_true rfl, Nat.le_of_ble_eq_true rfl⟩ ⟨Nat.le_of_ble_eq_true rfl, Nat.le_of_ble_eq_true rfl⟩ (Nat.le_of_ble_eq_true rfl) dX7_fromNowOn_18 (frM ([]) (wWays G a0 u2 v0.2.1 (0 : Int32)) (wLoom G a1 v1.1 v1.2.1 v1.2.2.1 v1.2.2.2.1 v1.2.2.2.2.1 v1.2.2.2.2.2)) rfl (pv (fun u4 hw => ?_))
  refine v_to (wWays G a0 u4.1 u4.2.1 u4.2.2 ++ wLoom G a1 v1.1 v1.2.1 v1.2.2.1 v1.2.2.2.1 v1.2.2.2.2.1 v1.2.2.2.2.2) 21 [(0, .ref a0.1), (1, .ref a1.1), (2, .int i0), (3, .int i1), (4, .int i2)] _ [] rfl rfl rfl rfl ?_
  refine v_iconst (v := 0) (pc2 := 22) S dX7_fromNowOn_21 (by decide) rfl ?_
  refine v_istore (lv2 := [(0, .ref a0.1), (1, .ref a1.1), (2, .int i0), (3, .int i1), (4, .int i2), (5, .int (0 : Int32))]) (pc2 := 24) S dX7_fromNowOn_22 (by decide) [1, 2, 3, 4, 5, 0] rfl rfl ?_
  refine v_lv [(0, .ref a0.1), (1, .ref a1.1), (3, .int i1), (4, .int i2), (5, .int (0 : Int32))] [0, 1, 3, 4, 5] rfl ?_
  obtain ⟨kk, hw⟩ := hw
  exact L24 i1 i2 kk (0 : Int32) u4 hw
set_option maxHeartbeats 4000000 in
set_option maxRecDepth 100000 in
theorem c_X7_lineUpSets (l : Launch) (G : GG) (a0 : WaysA) (a1 : LoomA) (v0 : WaysV) (v1 : LoomV) (i0 : Int32) (Q : WaysV → Prop) (hw : wp_X7_lineUpSets v0 v1 i0 Q) : Con l G yX7_lineUpSets cX7_lineUpSets 5 none { frames := 2, cells := 0, slots := 0, locals := 44 } [.ref a0.1, .ref a1.1, .int i0] (wWays G a0 v0.1 v0.2.1 v0.2.2 ++ wLoom G a1 v1.1 v1.2.1 v1.2.2.1 v1.2.2.2.1 v1.2.2.2.2.1 v1.2.2.2.2.2) (PV (fun u : WaysV => wWays G a0 u.1 u.2.1 u.2.2 ++ wLoom G a1 v1.1 v1.2.1 v1.2.2.1 v1.2.2.2.1 v1.2.2.2.2.1 v1.2.2.2.2.2) Q) 0 0 := by
  refine con_of RX7 rfl (by decide) [(0, .ref a0.1), (1, .ref a1.1), (2, .int i0)] rfl (Nat.le_of_ble_eq_true rfl) ?_
  intro p e s m args below meth c S hname
  have B37 : ∀ (x2 : Int32) (x3 : Int32) (t0 : Int32) (w0 : WaysV) (K7 : Int32 → WaysV → Prop) (hK7 : ∀ (y0 : Int32) (y1 : WaysV), K7 y0 y1 → V p l e { frames := 2, cells := 0, slots := 0, locals := 44 } s m args below meth c G (va_A (wWays G a0 v0.1 v0.2.1 v0.2.2 ++ wLoom G a1 v1.1 v1.2.1 v1.2.2.1 v1.2.2.2.1 v1.2.2.2.2.1 v1.2.2.2.2.2) s.heap.size) 5 0 0 (MQ below (EQ G (wWays G a0 v0.1 v0.2.1 v0.2.2 ++ wLoom G a1 v1.1 v1.2.1 v1.2.2.1 v1.2.2.2.1 v1.2.2.2.2.1 v1.2.2.2.2.2) s.heap.size (PV (fun u : WaysV => wWays G a0 u.1 u.2.1 u.2.2 ++ wLoom G a1 v1.1 v1.2.1 v1.2.2.1 v1.2.2.2.1 v1.2.2.2.2.1 v1.2.2.2.2.2) Q)) args s 0 0 (va_A (wWays G a0 v0.1 v0.2.1 v0.2.2 ++ wLoom G a1 v1.1 v1.2.1 v1.2.2.1 v1.2.2.2.1 v1.2.2.2.2.1 v1.2.2.2.2.2) s.heap.size)) (wWays G a0 y1.1 y1.2.1 y1.2.2 ++ wLoom G a1 v1.1 v1.2.1 v1.2.2.1 v1.2.2.2.1 v1.2.2.2.2.1 v1.2.2.2.2.2) 7 [(0, .ref a0.1), (1, .ref a1.1), (2, .int x2), (3, .int y0)] []), wp_X7_lineUpSets_B37 v1 x2 x3 t0 w0 Q K7 → V p l e { frames := 2, cells := 0, slots := 0, locals := 44 } s m args below meth c G (va_A (wWays G a0 v0.1 v0.2.1 v0.2.2 ++ wLoom G a1 v1.1 v1.2.1 v1.2.2.1 v1.2.2.2.1 v1.2.2.2.2.1 v1.2.2.2.2.2) s.heap.size) 5 0 0 (MQ below (EQ G (wWays G a0 v0.1 v0.2.1 v0.2.2 ++ wLoom G a1 v1.1 v1.2.1 v1.2.2.1 v1.2.2.2.1 v1.2.2.2.2.1 v1.2.2.2.2.2) s.heap.size (PV (fun u : WaysV => wWays G a0 u.1 u.2.1 u.2.2 ++ wLoom G a1 v1.1 v1.2.1 v1.2.2.1 v1.2.2.2.1 v1.2.2.2.2.1 v1.2.2.2.2.2) Q)) args s 0 0 (va_A (wWays G a0 v0.1 v0.2.1 v0.2.2 ++ wLoom G a1 v1.1 v1.2.1 v1.2.2.1 v1.2.2.2.1 v1.2.2.2.2.1 v1.2.2.2.2.2) s.heap.size)) (wWays G a0 w0.1 w0.2.1 w0.2.2 ++ wLoom G a1 v1.1 v1.2.1 v1.2.2.1 v1.2.2.2.1 v1.2.2.2.2.1 v1.2.2.2.2.2) 37 [(0, .ref a0.1), (1, .ref a1.1), (2, .int x2), (3, .int x3)] [.int t0] := by
    intro x2 x3 t0 w0 K7 hK7 hw
    refine v_istore (lv2 := [(0, .ref a0.1), (1, .ref a1.1), (2, .int x2), (3, .int x3), (4, .int t0)]) (pc2 := 39) S dX7_lineUpSets_37 (by decide) [1, 2, 3, 4, 0] rfl rfl ?_
    refine v_iload (pc2 := 41) S 4 dX7_lineUpSets_39 rfl rfl ?_
    refine v_if_eq (pc2 := 44) (tgt := 74) S dX7_lineUpSets_41 (by decide) rfl (fun c4 => ?_) (fun c4 => ?_)
    · have hw := hw.1 c4
      obtain ⟨z5, ez5⟩ : ∃ y : Int32, y = x3 + (1 : Int32) := ⟨_, rfl⟩
      have hw := hw z5 ez5
      refine v_iinc (v := z5) (lv2 := [(0, .ref a0.1), (1, .ref a1.1), (2, .int x2), (3, .int z5), (4, .int t0)]) (pc2 := 77) S 3 dX7_lineUpSets_74 rfl (by rw [ez5]; rfl) (by decide) [1, 2, 3, 0, 4] rfl rfl ?_
      refine v_goto (tgt := 7) S dX7_lineUpSets_77 (by decide) ?_
      refine v_lv [(0, .ref a0.1), (1, .ref a1.1), (2, .int x2), (3, .int z5)] [0, 1, 2, 3] rfl ?_
      exact hK7 z5 w0 hw
    · have hw := hw.2 c4
      refine v_aload_n (pc2 := 45) S 1 dX7_lineUpSets_44 rfl rfl rfl ?_
      refine v_iload_n (pc2 := 46) S 3 dX7_lineUpSets_45 rfl rfl rfl ?_
      refine v_callV (pc2 := 49) (As := [.int x3]) (rest := []) S (c_X3_heldBy l G a1 v1 x3 _ hw) mf_X3_heldBy u_349 u_287 u_288 0 3 rfl rfl rfl rfl ⟨rfl, rfl⟩ ⟨Nat.le_of_ble_eq_true rfl, Nat.le_of_ble_eq_true rfl⟩ ⟨Nat.le_of_ble_eq_true rfl, Nat.le_of_ble_eq_true rfl⟩ (Nat.le_of_ble_eq_true rfl) dX7_lineUpSets_46 (frM (wWays G a0 w0.1 w0.2.1 w0.2.2) (wLoom G a1 v1.1 v1.2.1 v1.2.2.1 v1.2.2.2.1 v1.2.2.2.2.1 v1.2.2.2.2.2) ([])) rfl (pi (fun r6 u7 hw => ?_))
      refine v_to (wWays G a0 w0.1 w0.2.1 w0.2.2 ++ wLoom G a1 v1.1 v1.2.1 v1.2.2.1 v1.2.2.2.1 v1.2.2.2.2.1 v1.2.2.2.2.2) 49 [(0, .ref a0.1), (1, .ref a1.1), (2, .int x2), (3, .int x3), (4, .int t0)] _ [.int r6] rfl rfl rfl rfl ?_
      refine v_iload_n (pc2 := 50) S 3 dX7_lineUpSets_49 rfl rfl rfl ?_
      refine v_iand (pc2 := 51) S dX7_lineUpSets_50 rfl ?_
      refine v_if_ne (pc2 := 54) (tgt := 74) S dX7_lineUpSets_51 (by decide) rfl (fun c8 => ?_) (fun c8 => ?_)
      · have hw := hw.1 c8
        obtain ⟨z9, ez9⟩ : ∃ y : Int32, y = x3 + (1 : Int32) := ⟨_, rfl⟩
        have hw := hw z9 ez9
        refine v_iinc (v := z9) (lv2 := [(0, .ref a0.1), (1, .ref a1.1), (2, .int x2), (3, .int z9), (4, .int t0)]) (pc2 := 77) S 3 dX7_lineUpSets_74 rfl (by rw [ez9]; rfl) (by decide) [1, 2, 3, 0, 4] rfl rfl ?_
        refine v_goto (tgt := 7) S dX7_lineUpSets_77 (by decide) ?_
        refine v_lv [(0, .ref a0.1), (1, .ref a1.1), (2, .int x2), (3, .int z9)] [0, 1, 2, 3] rfl ?_
        exact hK7 z9 w0 hw
      · have hw := hw.2 c8
        refine v_aload_n (pc2 := 55) S 0 dX7_lineUpSets_54 rfl rfl rfl ?_
        refine v_get (v := .ref a0.2.2) (pc2 := 58) S gf_X7_15 0 rfl rfl dX7_lineUpSets_55 rfl ?_
        refine v_aload_n (pc2 := 59) S 0 dX7_lineUpSets_58 rfl rfl rfl ?_
        refine v_get (v := .int w0.2.2) (pc2 := 62) S gf_X7_18 0 rfl rfl dX7_lineUpSets_59 rfl ?_
        refine v_iload_n (pc2 := 63) S 3 dX7_lineUpSets_62 rfl rfl rfl ?_
        obtain ⟨h10, hw⟩ := hw
        obtain ⟨g11, eg11⟩ : ∃ y : Nat → Int32, y = upd w0.2.1 w0.2.2.toNatClampNeg x3 := ⟨_, rfl⟩
        have hw := hw g11 eg11
        refine v_iast (ws2 := wWays G a0 w0.1 g11 w0.2.2 ++ wLoom G a1 v1.1 v1.2.1 v1.2.2.1 v1.2.2.2.1 v1.2.2.2.2.1 v1.2.2.2.2.2) (pc2 := 64) S 2 rfl h10 (by rw [eg11] <;> rfl) dX7_lineUpSets_63 rfl ?_
        refine v_aload_n (pc2 := 65) S 0 dX7_lineUpSets_64 rfl rfl rfl ?_
        refine v_dup (pc2 := 66) S dX7_lineUpSets_65 rfl rfl ?_
        refine v_get (v := .int w0.2.2) (pc2 := 69) S gf_X7_18 0 rfl rfl dX7_lineUpSets_66 rfl ?_
        refine v_iconst (v := 1) (pc2 := 70) S dX7_lineUpSets_69 (by decide) rfl ?_
        refine v_iadd (pc2 := 71) S dX7_lineUpSets_70 rfl ?_
        refine v_nm (fun z12 ez12 => ?_)
        have hw := hw z12 ez12
        refine v_put (ws2 := wWays G a0 w0.1 g11 z12 ++ wLoom G a1 v1.1 v1.2.1 v1.2.2.1 v1.2.2.2.1 v1.2.2.2.2.1 v1.2.2.2.2.2) (pc2 := 74) S gf_X7_18 pf_X7_2 0 rfl rfl rfl (Nat.le_of_ble_eq_true rfl) rfl dX7_lineUpSets_71 rfl ?_
        obtain ⟨z13, ez13⟩ : ∃ y : Int32, y = x3 + (1 : Int32) := ⟨_, rfl⟩
        have hw := hw z13 ez13
        refine v_iinc (v := z13) (lv2 := [(0, .ref a0.1), (1, .ref a1.1), (2, .int x2), (3, .int z13), (4, .int t0)]) (pc2 := 77) S 3 dX7_lineUpSets_74 rfl (by rw [ez13]; rfl) (by decide) [1, 2, 3, 0, 4] rfl rfl ?_
        refine v_goto (tgt := 7) S dX7_lineUpSets_77 (by decide) ?_
        refine v_lv [(0, .ref a0.1), (1, .ref a1.1), (2, .int x2), (3, .int z13)] [0, 1, 2, 3] rfl ?_
        exact hK7 z13 (w0.1, g11, z12) hw
  have L7 : ∀ (x2 : Int32) (kk : Nat) (x3 : Int32) (w0 : WaysV), wp_X7_lineUpSets_L7 v1 x2 Q kk x3 w0 → V p l e { frames := 2, cells := 0, slots := 0, locals := 44 } s m args below meth c G (va_A (wWays G a0 v0.1 v0.2.1 v0.2.2 ++ wLoom G a1 v1.1 v1.2.1 v1.2.2.1 v1.2.2.2.1 v1.2.2.2.2.1 v1.2.2.2.2.2) s.heap.size) 5 0 0 (MQ below (EQ G (wWays G a0 v0.1 v0.2.1 v0.2.2 ++ wLoom G a1 v1.1 v1.2.1 v1.2.2.1 v1.2.2.2.1 v1.2.2.2.2.1 v1.2.2.2.2.2) s.heap.size (PV (fun u : WaysV => wWays G a0 u.1 u.2.1 u.2.2 ++ wLoom G a1 v1.1 v1.2.1 v1.2.2.1 v1.2.2.2.1 v1.2.2.2.2.1 v1.2.2.2.2.2) Q)) args s 0 0 (va_A (wWays G a0 v0.1 v0.2.1 v0.2.2 ++ wLoom G a1 v1.1 v1.2.1 v1.2.2.1 v1.2.2.2.1 v1.2.2.2.2.1 v1.2.2.2.2.2) s.heap.size)) (wWays G a0 w0.1 w0.2.1 w0.2.2 ++ wLoom G a1 v1.1 v1.2.1 v1.2.2.1 v1.2.2.2.1 v1.2.2.2.2.1 v1.2.2.2.2.2) 7 [(0, .ref a0.1), (1, .ref a1.1), (2, .int x2), (3, .int x3)] [] := by
    intro x2 kk
    induction kk with
    | zero => intro x3 w0 hw; exact hw.elim
    | succ n ih =>
      intro x3 w0 hw
      refine v_iload_n (pc2 := 8) S 3 dX7_lineUpSets_7 rfl rfl rfl ?_
      refine v_sipush (v := 1023) (pc2 := 11) S dX7_lineUpSets_8 (by decide) rfl ?_
      refine v_icmp_gt (pc2 := 14) (tgt := 80) S dX7_lineUpSets_11 (by decide) rfl (fun c1 => ?_) (fun c1 => ?_)
      · have hw := hw.1 c1
        exact v_vret S ⟨w0, rfl, rfl, hw⟩ dX7_lineUpSets_80
      · have hw := hw.2 c1
        refine v_aload_n (pc2 := 15) S 0 dX7_lineUpSets_14 rfl rfl rfl ?_
        refine v_get (v := .int w0.2.2) (pc2 := 18) S gf_X7_18 0 rfl rfl dX7_lineUpSets_15 rfl ?_
        refine v_sipush (v := 6144) (pc2 := 21) S dX7_lineUpSets_18 (by decide) rfl ?_
        refine v_icmp_ge (pc2 := 24) (tgt := 80) S dX7_lineUpSets_21 (by decide) rfl (fun c2 => ?_) (fun c2 => ?_)
        · have hw := hw.1 c2
          exact v_vret S ⟨w0, rfl, rfl, hw⟩ dX7_lineUpSets_80
        · have hw := hw.2 c2
          refine v_iload_n (pc2 := 25) S 3 dX7_lineUpSets_24 rfl rfl rfl ?_
          refine v_iload_n (pc2 := 26) S 2 dX7_lineUpSets_25 rfl rfl rfl ?_
          refine v_iconst (v := -1) (pc2 := 27) S dX7_lineUpSets_26 (by decide) rfl ?_
          refine v_ixor (pc2 := 28) S dX7_lineUpSets_27 rfl ?_
          refine v_iand (pc2 := 29) S dX7_lineUpSets_28 rfl ?_
          refine v_if_ne (pc2 := 32) (tgt := 36) S dX7_lineUpSets_29 (by decide) rfl (fun c3 => ?_) (fun c3 => ?_)
          · have hw := hw.1 c3
            refine v_iconst (v := 0) (pc2 := 37) S dX7_lineUpSets_36 (by decide) rfl ?_
            exact B37 x2 x3 (0 : Int32) w0 (wp_X7_lineUpSets_L7 v1 x2 Q n) ih hw
          · have hw := hw.2 c3
            refine v_iconst (v := 1) (pc2 := 33) S dX7_lineUpSets_32 (by decide) rfl ?_
            refine v_goto (tgt := 37) S dX7_lineUpSets_33 (by decide) ?_
            exact B37 x2 x3 (1 : Int32) w0 (wp_X7_lineUpSets_L7 v1 x2 Q n) ih hw
  refine v_aload_n (pc2 := 1) S 0 dX7_lineUpSets_0 rfl rfl rfl ?_
  refine v_iconst (v := 0) (pc2 := 2) S dX7_lineUpSets_1 (by decide) rfl ?_
  refine v_put (ws2 := wWays G a0 v0.1 v0.2.1 (0 : Int32) ++ wLoom G a1 v1.1 v1.2.1 v1.2.2.1 v1.2.2.2.1 v1.2.2.2.2.1 v1.2.2.2.2.2) (pc2 := 5) S gf_X7_18 pf_X7_2 0 rfl rfl rfl (Nat.le_of_ble_eq_true rfl) rfl dX7_lineUpSets_2 rfl ?_
  refine v_iconst (v := 0) (pc2 := 6) S dX7_lineUpSets_5 (by decide) rfl ?_
  refine v_istore_n (lv2 := [(0, .ref a0.1), (1, .ref a1.1), (2, .int i0), (3, .int (0 : Int32))]) (pc2 := 7) S dX7_lineUpSets_6 rfl (by decide) [1, 2, 3, 0] rfl rfl ?_
  obtain ⟨kk, hw⟩ := hw
  exact L7 i0 kk (0 : Int32) (v0.1, v0.2.1, (0 : Int32)) hw
set_option maxHeartbeats 4000000 in
set_option maxRecDepth 100000 in
theorem c_X7_begin (l : Launch) (G : GG) (a0 : WaysA) (v0 : WaysV) (i0 : Int32) (Q : WaysV → Prop) (hw : wp_X7_begin v0 i0 Q) : Con l G yX7_begin cX7_begin 2 none { frames := 1, cells := 0, slots := 0, locals := 20 } [.ref a0.1, .int i0] (wWays G a0 v0.1 v0.2.1 v0.2.2) (PV (fun u : WaysV => wWays G a0 u.1 u.2.1 u.2.2) Q) 0 0 := by
  refine con_of RX7 rfl (by decide) [(0, .ref a0.1), (1, .int i0)] rfl (Nat.le_of_ble_eq_true rfl) ?_
  intro p e s m args below meth c S hname
  refine v_iload_n (pc2 := 1) S 1 dX7_begin_0 rfl rfl rfl ?_
  refine v_callS (pc2 := 4) (As := [.int i0]) (rest := []) S (c_X7_isSpot l G i0 _ hw) mf_X7_isSpot u_338 u_339 rfl rfl ⟨rfl, rfl⟩ ⟨Nat.le_of_ble_eq_true rfl, Nat.le_of_ble_eq_true rfl⟩ ⟨Nat.le_of_ble_eq_true rfl, Nat.le_of_ble_eq_true rfl⟩ (Nat.le_of_ble_eq_true rfl) dX7_begin_1 (frM [] [] _) rfl (pb (fun r1 u2 br1 hw => ?_))
  refine v_to (wWays G a0 v0.1 v0.2.1 v0.2.2) 4 [(0, .ref a0.1), (1, .int i0)] _ [.int r1] rfl rfl rfl rfl ?_
  refine v_if_eq (pc2 := 7) (tgt := 14) S dX7_begin_4 (by decide) rfl (fun c3 => ?_) (fun c3 => ?_)
  · have hw := hw.1 c3
    exact v_vret S ⟨v0, rfl, rfl, hw⟩ dX7_begin_14
  · have hw := hw.2 c3
    refine v_aload_n (pc2 := 8) S 0 dX7_begin_7 rfl rfl rfl ?_
    refine v_get (v := .ref a0.2.1) (pc2 := 11) S gf_X7_9 0 rfl rfl dX7_begin_8 rfl ?_
    refine v_iload_n (pc2 := 12) S 1 dX7_begin_11 rfl rfl rfl ?_
    refine v_iconst (v := 0) (pc2 := 13) S dX7_begin_12 (by decide) rfl ?_
    obtain ⟨h4, hw⟩ := hw
    obtain ⟨g5, eg5⟩ : ∃ y : Nat → Int32, y = upd v0.1 i0.toNatClampNeg (0 : Int32) := ⟨_, rfl⟩
    have hw := hw g5 eg5
    refine v_iast (ws2 := wWays G a0 g5 v0.2.1 v0.2.2) (pc2 := 14) S 1 rfl h4 (by rw [eg5] <;> rfl) dX7_begin_13 rfl ?_
    exact v_vret S ⟨(g5, v0.2.1, v0.2.2), rfl, rfl, hw⟩ dX7_begin_14
set_option maxHeartbeats 4000000 in
set_option maxRecDepth 100000 in
theorem c_X7_lessen (l : Launch) (G : GG) (a0 : WaysA) (v0 : WaysV) (i0 : Int32) (i1 : Int32) (Q : Int32 → WaysV → Prop) (hw : wp_X7_lessen v0 i0 i1 Q) : Con l G yX7_lessen cX7_lessen 3 (some .int) { frames := 1, cells := 0, slots := 0, locals := 20 } [.ref a0.1, .int i0, .int i1] (wWays G a0 v0.1 v0.2.1 v0.2.2) (PI (fun u : WaysV => wWays G a0 u.1 u.2.1 u.2.2) Q) 0 0 := by
  refine con_of RX7 rfl (by decide) [(0, .ref a0.1), (1, .int i0), (2, .int i1)] rfl (Nat.le_of_ble_eq_true rfl) ?_
  intro p e s m args below meth c S hname
  refine v_iload_n (pc2 := 1) S 1 dX7_lessen_0 rfl rfl rfl ?_
  refine v_callS (pc2 := 4) (As := [.int i0]) (rest := []) S (c_X7_isSpot l G i0 _ hw) mf_X7_isSpot u_338 u_339 rfl rfl ⟨rfl, rfl⟩ ⟨Nat.le_of_ble_eq_true rfl, Nat.le_of_ble_eq_true rfl⟩ ⟨Nat.le_of_ble_eq_true rfl, Nat.le_of_ble_eq_true rfl⟩ (Nat.le_of_ble_eq_true rfl) dX7_lessen_1 (frM [] [] _) rfl (pb (fun r1 u2 br1 hw => ?_))
  refine v_to (wWays G a0 v0.1 v0.2.1 v0.2.2) 4 [(0, .ref a0.1), (1, .int i0), (2, .int i1)] _ [.int r1] rfl rfl rfl rfl ?_
  refine v_if_eq (pc2 := 7) (tgt := 31) S dX7_lessen_4 (by decide) rfl (fun c3 => ?_) (fun c3 => ?_)
  · have hw := hw.1 c3
    refine v_iconst (v := 0) (pc2 := 32) S dX7_lessen_31 (by decide) rfl ?_
    exact v_iret S ⟨(0 : Int32), v0, rfl, rfl, hw⟩ dX7_lessen_32
  · have hw := hw.2 c3
    refine v_iload_n (pc2 := 8) S 2 dX7_lessen_7 rfl rfl rfl ?_
    refine v_callS (pc2 := 11) (As := [.int i1]) (rest := []) S (c_X7_isSpot l G i1 _ hw) mf_X7_isSpot u_338 u_339 rfl rfl ⟨rfl, rfl⟩ ⟨Nat.le_of_ble_eq_true rfl, Nat.le_of_ble_eq_true rfl⟩ ⟨Nat.le_of_ble_eq_true rfl, Nat.le_of_ble_eq_true rfl⟩ (Nat.le_of_ble_eq_true rfl) dX7_lessen_8 (frM [] [] _) rfl (pb (fun r4 u5 br4 hw => ?_))
    refine v_to (wWays G a0 v0.1 v0.2.1 v0.2.2) 11 [(0, .ref a0.1), (1, .int i0), (2, .int i1)] _ [.int r4] rfl rfl rfl rfl ?_
    refine v_if_eq (pc2 := 14) (tgt := 31) S dX7_lessen_11 (by decide) rfl (fun c6 => ?_) (fun c6 => ?_)
    · have hw := hw.1 c6
      refine v_iconst (v := 0) (pc2 := 32) S dX7_lessen_31 (by decide) rfl ?_
      exact v_iret S ⟨(0 : Int32), v0, rfl, rfl, hw⟩ dX7_lessen_32
    · have hw := hw.2 c6
      refine v_aload_n (pc2 := 15) S 0 dX7_lessen_14 rfl rfl rfl ?_
      refine v_get (v := .ref a0.2.1) (pc2 := 18) S gf_X7_9 0 rfl rfl dX7_lessen_15 rfl ?_
      refine v_iload_n (pc2 := 19) S 2 dX7_lessen_18 rfl rfl rfl ?_
      obtain ⟨h7, hw⟩ := hw
      refine v_iald (pc2 := 20) S 1 rfl h7 dX7_lessen_19 rfl ?_
      refine v_iconst (v := 1) (pc2 := 21) S dX7_lessen_20 (by decide) rfl ?_
      refine v_iadd (pc2 := 22) S dX7_lessen_21 rfl ?_
      refine v_aload_n (pc2 := 23) S 0 dX7_lessen_22 rfl rfl rfl ?_
      refine v_get (v := .ref a0.2.1) (pc2 := 26) S gf_X7_9 0 rfl rfl dX7_lessen_23 rfl ?_
      refine v_iload_n (pc2 := 27) S 1 dX7_lessen_26 rfl rfl rfl ?_
      obtain ⟨h8, hw⟩ := hw
      refine v_iald (pc2 := 28) S 1 rfl h8 dX7_lessen_27 rfl ?_
      refine v_icmp_lt (pc2 := 31) (tgt := 33) S dX7_lessen_28 (by decide) rfl (fun c9 => ?_) (fun c9 => ?_)
      · have hw := hw.1 c9
        refine v_aload_n (pc2 := 34) S 0 dX7_lessen_33 rfl rfl rfl ?_
        refine v_get (v := .ref a0.2.1) (pc2 := 37) S gf_X7_9 0 rfl rfl dX7_lessen_34 rfl ?_
        refine v_iload_n (pc2 := 38) S 1 dX7_lessen_37 rfl rfl rfl ?_
        refine v_aload_n (pc2 := 39) S 0 dX7_lessen_38 rfl rfl rfl ?_
        refine v_get (v := .ref a0.2.1) (pc2 := 42) S gf_X7_9 0 rfl rfl dX7_lessen_39 rfl ?_
        refine v_iload_n (pc2 := 43) S 2 dX7_lessen_42 rfl rfl rfl ?_
        obtain ⟨h10, hw⟩ := hw
        refine v_iald (pc2 := 44) S 1 rfl h10 dX7_lessen_43 rfl ?_
        refine v_iconst (v := 1) (pc2 := 45) S dX7_lessen_44 (by decide) rfl ?_
        refine v_iadd (pc2 := 46) S dX7_lessen_45 rfl ?_
        obtain ⟨h11, hw⟩ := hw
        obtain ⟨g12, eg12⟩ : ∃ y : Nat → Int32, y = upd v0.1 i0.toNatClampNeg ((v0.1 i1.toNatClampNeg) + (1 : Int32)) := ⟨_, rfl⟩
        have hw := hw g12 eg12
        refine v_iast (ws2 := wWays G a0 g12 v0.2.1 v0.2.2) (pc2 := 47) S 1 rfl h11 (by rw [eg12] <;> rfl) dX7_lessen_46 rfl ?_
        refine v_iconst (v := 1) (pc2 := 48) S dX7_lessen_47 (by decide) rfl ?_
        exact v_iret S ⟨(1 : Int32), (g12, v0.2.1, v0.2.2), rfl, rfl, hw⟩ dX7_lessen_48
      · have hw := hw.2 c9
        refine v_iconst (v := 0) (pc2 := 32) S dX7_lessen_31 (by decide) rfl ?_
        exact v_iret S ⟨(0 : Int32), v0, rfl, rfl, hw⟩ dX7_lessen_32
set_option maxHeartbeats 4000000 in
set_option maxRecDepth 100000 in
theorem c_X7_lessenAll (l : Launch) (G : GG) (a0 : WaysA) (a1 : LoomA) (v0 : WaysV) (v1 : LoomV) (i0 : Int32) (i1 : Int32) (Q : Int32 → WaysV → Prop) (hw : wp_X7_lessenAll v0 v1 i0 i1 Q) : Con l G yX7_lessenAll cX7_lessenAll 10 (some .int) { frames := 4, cells := 0, slots := 0, locals := 91 } [.ref a0.1, .ref a1.1, .int i0, .int i1] (wWays G a0 v0.1 v0.2.1 v0.2.2 ++ wLoom G a1 v1.1 v1.2.1 v1.2.2.1 v1.2.2.2.1 v1.2.2.2.2.1 v1.2.2.2.2.2) (PI (fun u : WaysV => wWays G a0 u.1 u.2.1 u.2.2 ++ wLoom G a1 v1.1 v1.2.1 v1.2.2.1 v1.2.2.2.1 v1.2.2.2.2.1 v1.2.2.2.2.2) Q) 0 0 := by
  refine con_of RX7 rfl (by decide) [(0, .ref a0.1), (1, .ref a1.1), (2, .int i0), (3, .int i1)] rfl (Nat.le_of_ble_eq_true rfl) ?_
  intro p e s m args below meth c S hname
  have B125 : ∀ (x2 : Int32) (x4 : Int32) (x5 : Int32) (x6 : Int32) (x7 : Int32) (x8 : Int32) (x9 : Int32) (w0 : WaysV) (K21 : Int32 → Int32 → WaysV → Prop) (hK21 : ∀ (y0 : Int32) (y1 : Int32) (y2 : WaysV), K21 y0 y1 y2 → V p l e { frames := 4, cells := 0, slots := 0, locals := 91 } s m args below meth c G (va_A (wWays G a0 v0.1 v0.2.1 v0.2.2 ++ wLoom G a1 v1.1 v1.2.1 v1.2.2.1 v1.2.2.2.1 v1.2.2.2.2.1 v1.2.2.2.2.2) s.heap.size) 10 0 0 (MQ below (EQ G (wWays G a0 v0.1 v0.2.1 v0.2.2 ++ wLoom G a1 v1.1 v1.2.1 v1.2.2.1 v1.2.2.2.1 v1.2.2.2.2.1 v1.2.2.2.2.2) s.heap.size (PI (fun u : WaysV => wWays G a0 u.1 u.2.1 u.2.2 ++ wLoom G a1 v1.1 v1.2.1 v1.2.2.1 v1.2.2.2.1 v1.2.2.2.2.1 v1.2.2.2.2.2) Q)) args s 0 0 (va_A (wWays G a0 v0.1 v0.2.1 v0.2.2 ++ wLoom G a1 v1.1 v1.2.1 v1.2.2.1 v1.2.2.2.1 v1.2.2.2.2.1 v1.2.2.2.2.2) s.heap.size)) (wWays G a0 y2.1 y2.2.1 y2.2.2 ++ wLoom G a1 v1.1 v1.2.1 v1.2.2.1 v1.2.2.2.1 v1.2.2.2.2.1 v1.2.2.2.2.2) 21 [(0, .ref a0.1), (1, .ref a1.1), (2, .int x2), (4, .int x4), (5, .int y0), (6, .int y1)] []), wp_X7_lessenAll_B125 v1 x2 x4 x5 x6 x7 x8 x9 w0 Q K21 → V p l e { frames := 4, cells := 0, slots := 0, locals := 91 } s m args below meth c G (va_A (wWays G a0 v0.1 v0.2.1 v0.2.2 ++ wLoom G a1 v1.1 v1.2.1 v1.2.2.1 v1.2.2.2.1 v1.2.2.2.2.1 v1.2.2.2.2.2) s.heap.size) 10 0 0 (MQ below (EQ G (wWays G a0 v0.1 v0.2.1 v0.2.2 ++ wLoom G a1 v1.1 v1.2.1 v1.2.2.1 v1.2.2.2.1 v1.2.2.2.2.1 v1.2.2.2.2.2) s.heap.size (PI (fun u : WaysV => wWays G a0 u.1 u.2.1 u.2.2 ++ wLoom G a1 v1.1 v1.2.1 v1.2.2.1 v1.2.2.2.1 v1.2.2.2.2.1 v1.2.2.2.2.2) Q)) args s 0 0 (va_A (wWays G a0 v0.1 v0.2.1 v0.2.2 ++ wLoom G a1 v1.1 v1.2.1 v1.2.2.1 v1.2.2.2.1 v1.2.2.2.2.1 v1.2.2.2.2.2) s.heap.size)) (wWays G a0 w0.1 w0.2.1 w0.2.2 ++ wLoom G a1 v1.1 v1.2.1 v1.2.2.1 v1.2.2.2.1 v1.2.2.2.2.1 v1.2.2.2.2.2) 125 [(0, .ref a0.1), (1, .ref a1.1), (2, .int x2), (4, .int x4), (5, .int x5), (6, .int x6), (7, .int x7), (8, .int x8), (9, .int x9)] [] := by
    intro x2 x4 x5 x6 x7 x8 x9 w0 K21 hK21 hw
    refine v_iload (pc2 := 127) S 4 dX7_lessenAll_125 rfl rfl ?_
    refine v_aload_n (pc2 := 128) S 0 dX7_lessenAll_127 rfl rfl rfl ?_
    refine v_iload_n (pc2 := 129) S 2 dX7_lessenAll_128 rfl rfl rfl ?_
    refine v_iload (pc2 := 131) S 6 dX7_lessenAll_129 rfl rfl ?_
    refine v_callSN (pc2 := 134) (As := [.int x2, .int x7]) (rest := [.ref a0.1, .int x5]) S (c_X8_spot l G x2 x7 _ hw) mf_X8_spot u_356 u_325 rfl rfl ⟨rfl, rfl⟩ ⟨Nat.le_of_ble_eq_true rfl, Nat.le_of_ble_eq_true rfl⟩ ⟨Nat.le_of_ble_eq_true rfl, Nat.le_of_ble_eq_true rfl⟩ (Nat.le_of_ble_eq_true rfl) dX7_lessenAll_131 (frM [] [] _) rfl (pi (fun r18 u19 hw => ?_))
    refine v_to (wWays G a0 w0.1 w0.2.1 w0.2.2 ++ wLoom G a1 v1.1 v1.2.1 v1.2.2.1 v1.2.2.2.1 v1.2.2.2.2.1 v1.2.2.2.2.2) 134 [(0, .ref a0.1), (1, .ref a1.1), (2, .int x2), (4, .int x4), (5, .int x5), (6, .int x6), (7, .int x7), (8, .int x8), (9, .int x9)] _ [.int r18, .ref a0.1, .int x5] rfl rfl rfl rfl ?_
    refine v_iload (pc2 := 136) S 8 dX7_lessenAll_134 rfl rfl ?_
    refine v_iload (pc2 := 138) S 6 dX7_lessenAll_136 rfl rfl ?_
    refine v_callSN (pc2 := 141) (As := [.int x9, .int x7]) (rest := [.int r18, .ref a0.1, .int x5]) S (c_X8_spot l G x9 x7 _ hw) mf_X8_spot u_356 u_325 rfl rfl ⟨rfl, rfl⟩ ⟨Nat.le_of_ble_eq_true rfl, Nat.le_of_ble_eq_true rfl⟩ ⟨Nat.le_of_ble_eq_true rfl, Nat.le_of_ble_eq_true rfl⟩ (Nat.le_of_ble_eq_true rfl) dX7_lessenAll_138 (frM [] [] _) rfl (pi (fun r20 u21 hw => ?_))
    refine v_to (wWays G a0 w0.1 w0.2.1 w0.2.2 ++ wLoom G a1 v1.1 v1.2.1 v1.2.2.1 v1.2.2.2.1 v1.2.2.2.2.1 v1.2.2.2.2.2) 141 [(0, .ref a0.1), (1, .ref a1.1), (2, .int x2), (4, .int x4), (5, .int x5), (6, .int x6), (7, .int x7), (8, .int x8), (9, .int x9)] _ [.int r20, .int r18, .ref a0.1, .int x5] rfl rfl rfl rfl ?_
    refine v_callV (pc2 := 144) (As := [.int r18, .int r20]) (rest := [.int x5]) S (c_X7_lessen l G a0 w0 r18 r20 _ hw) mf_X7_lessen u_394 u_396 u_9 0 7 rfl rfl rfl rfl ⟨rfl, rfl⟩ ⟨Nat.le_of_ble_eq_true rfl, Nat.le_of_ble_eq_true rfl⟩ ⟨Nat.le_of_ble_eq_true rfl, Nat.le_of_ble_eq_true rfl⟩ (Nat.le_of_ble_eq_true rfl) dX7_lessenAll_141 (frM ([]) (wWays G a0 w0.1 w0.2.1 w0.2.2) (wLoom G a1 v1.1 v1.2.1 v1.2.2.1 v1.2.2.2.1 v1.2.2.2.2.1 v1.2.2.2.2.2)) rfl (pi (fun r22 u23 hw => ?_))
    refine v_to (wWays G a0 u23.1 u23.2.1 u23.2.2 ++ wLoom G a1 v1.1 v1.2.1 v1.2.2.1 v1.2.2.2.1 v1.2.2.2.2.1 v1.2.2.2.2.2) 144 [(0, .ref a0.1), (1, .ref a1.1), (2, .int x2), (4, .int x4), (5, .int x5), (6, .int x6), (7, .int x7), (8, .int x8), (9, .int x9)] _ [.int r22, .int x5] rfl rfl rfl rfl ?_
    refine v_iadd (pc2 := 145) S dX7_lessenAll_144 rfl ?_
    refine v_nm (fun z24 ez24 => ?_)
    have hw := hw z24 ez24
    refine v_istore (lv2 := [(0, .ref a0.1), (1, .ref a1.1), (2, .int x2), (4, .int x4), (5, .int z24), (6, .int x6), (7, .int x7), (8, .int x8), (9, .int x9)]) (pc2 := 147) S dX7_lessenAll_145 (by decide) [1, 2, 3, 4, 0, 5, 6, 7, 8] rfl rfl ?_
    refine v_iload (pc2 := 149) S 4 dX7_lessenAll_147 rfl rfl ?_
    refine v_aload_n (pc2 := 150) S 0 dX7_lessenAll_149 rfl rfl rfl ?_
    refine v_iload_n (pc2 := 151) S 2 dX7_lessenAll_150 rfl rfl rfl ?_
    refine v_iload (pc2 := 153) S 7 dX7_lessenAll_151 rfl rfl ?_
    refine v_callSN (pc2 := 156) (As := [.int x2, .int x8]) (rest := [.ref a0.1, .int z24]) S (c_X8_spot l G x2 x8 _ hw) mf_X8_spot u_356 u_325 rfl rfl ⟨rfl, rfl⟩ ⟨Nat.le_of_ble_eq_true rfl, Nat.le_of_ble_eq_true rfl⟩ ⟨Nat.le_of_ble_eq_true rfl, Nat.le_of_ble_eq_true rfl⟩ (Nat.le_of_ble_eq_true rfl) dX7_lessenAll_153 (frM [] [] _) rfl (pi (fun r25 u26 hw => ?_))
    refine v_to (wWays G a0 u23.1 u23.2.1 u23.2.2 ++ wLoom G a1 v1.1 v1.2.1 v1.2.2.1 v1.2.2.2.1 v1.2.2.2.2.1 v1.2.2.2.2.2) 156 [(0, .ref a0.1), (1, .ref a1.1), (2, .int x2), (4, .int x4), (5, .int z24), (6, .int x6), (7, .int x7), (8, .int x8), (9, .int x9)] _ [.int r25, .ref a0.1, .int z24] rfl rfl rfl rfl ?_
    refine v_iload (pc2 := 158) S 8 dX7_lessenAll_156 rfl rfl ?_
    refine v_iload (pc2 := 160) S 7 dX7_lessenAll_158 rfl rfl ?_
    refine v_callSN (pc2 := 163) (As := [.int x9, .int x8]) (rest := [.int r25, .ref a0.1, .int z24]) S (c_X8_spot l G x9 x8 _ hw) mf_X8_spot u_356 u_325 rfl rfl ⟨rfl, rfl⟩ ⟨Nat.le_of_ble_eq_true rfl, Nat.le_of_ble_eq_true rfl⟩ ⟨Nat.le_of_ble_eq_true rfl, Nat.le_of_ble_eq_true rfl⟩ (Nat.le_of_ble_eq_true rfl) dX7_lessenAll_160 (frM [] [] _) rfl (pi (fun r27 u28 hw => ?_))
    refine v_to (wWays G a0 u23.1 u23.2.1 u23.2.2 ++ wLoom G a1 v1.1 v1.2.1 v1.2.2.1 v1.2.2.2.1 v1.2.2.2.2.1 v1.2.2.2.2.2) 163 [(0, .ref a0.1), (1, .ref a1.1), (2, .int x2), (4, .int x4), (5, .int z24), (6, .int x6), (7, .int x7), (8, .int x8), (9, .int x9)] _ [.int r27, .int r25, .ref a0.1, .int z24] rfl rfl rfl rfl ?_
    refine v_callV (pc2 := 166) (As := [.int r25, .int r27]) (rest := [.int z24]) S (c_X7_lessen l G a0 u23 r25 r27 _ hw) mf_X7_lessen u_394 u_396 u_9 0 7 rfl rfl rfl rfl ⟨rfl, rfl⟩ ⟨Nat.le_of_ble_eq_true rfl, Nat.le_of_ble_eq_true rfl⟩ ⟨Nat.le_of_ble_eq_true rfl, Nat.le_of_ble_eq_true rfl⟩ (Nat.le_of_ble_eq_true rfl) dX7_lessenAll_163 (frM ([]) (wWays G a0 u23.1 u23.2.1 u23.2.2) (wLoom G a1 v1.1 v1.2.1 v1.2.2.1 v1.2.2.2.1 v1.2.2.2.2.1 v1.2.2.2.2.2)) rfl (pi (fun r29 u30 hw => ?_))
    refine v_to (wWays G a0 u30.1 u30.2.1 u30.2.2 ++ wLoom G a1 v1.1 v1.2.1 v1.2.2.1 v1.2.2.2.1 v1.2.2.2.2.1 v1.2.2.2.2.2) 166 [(0, .ref a0.1), (1, .ref a1.1), (2, .int x2), (4, .int x4), (5, .int z24), (6, .int x6), (7, .int x7), (8, .int x8), (9, .int x9)] _ [.int r29, .int z24] rfl rfl rfl rfl ?_
    refine v_iadd (pc2 := 167) S dX7_lessenAll_166 rfl ?_
    refine v_nm (fun z31 ez31 => ?_)
    have hw := hw z31 ez31
    refine v_istore (lv2 := [(0, .ref a0.1), (1, .ref a1.1), (2, .int x2), (4, .int x4), (5, .int z31), (6, .int x6), (7, .int x7), (8, .int x8), (9, .int x9)]) (pc2 := 169) S dX7_lessenAll_167 (by decide) [1, 2, 3, 4, 0, 5, 6, 7, 8] rfl rfl ?_
    obtain ⟨z32, ez32⟩ : ∃ y : Int32, y = x6 + (1 : Int32) := ⟨_, rfl⟩
    have hw := hw z32 ez32
    refine v_iinc (v := z32) (lv2 := [(0, .ref a0.1), (1, .ref a1.1), (2, .int x2), (4, .int x4), (5, .int z31), (6, .int z32), (7, .int x7), (8, .int x8), (9, .int x9)]) (pc2 := 172) S 5 dX7_lessenAll_169 rfl (by rw [ez32]; rfl) (by decide) [1, 2, 3, 4, 5, 0, 6, 7, 8] rfl rfl ?_
    refine v_goto (tgt := 21) S dX7_lessenAll_172 (by decide) ?_
    refine v_lv [(0, .ref a0.1), (1, .ref a1.1), (2, .int x2), (4, .int x4), (5, .int z31), (6, .int z32)] [0, 1, 2, 3, 4, 5] rfl ?_
    exact hK21 z31 z32 u30 hw
  have L21 : ∀ (x2 : Int32) (x4 : Int32) (kk : Nat) (x5 : Int32) (x6 : Int32) (w0 : WaysV), wp_X7_lessenAll_L21 v1 x2 x4 Q kk x5 x6 w0 → V p l e { frames := 4, cells := 0, slots := 0, locals := 91 } s m args below meth c G (va_A (wWays G a0 v0.1 v0.2.1 v0.2.2 ++ wLoom G a1 v1.1 v1.2.1 v1.2.2.1 v1.2.2.2.1 v1.2.2.2.2.1 v1.2.2.2.2.2) s.heap.size) 10 0 0 (MQ below (EQ G (wWays G a0 v0.1 v0.2.1 v0.2.2 ++ wLoom G a1 v1.1 v1.2.1 v1.2.2.1 v1.2.2.2.1 v1.2.2.2.2.1 v1.2.2.2.2.2) s.heap.size (PI (fun u : WaysV => wWays G a0 u.1 u.2.1 u.2.2 ++ wLoom G a1 v1.1 v1.2.1 v1.2.2.1 v1.2.2.2.1 v1.2.2.2.2.1 v1.2.2.2.2.2) Q)) args s 0 0 (va_A (wWays G a0 v0.1 v0.2.1 v0.2.2 ++ wLoom G a1 v1.1 v1.2.1 v1.2.2.1 v1.2.2.2.1 v1.2.2.2.2.1 v1.2.2.2.2.2) s.heap.size)) (wWays G a0 w0.1 w0.2.1 w0.2.2 ++ wLoom G a1 v1.1 v1.2.1 v1.2.2.1 v1.2.2.2.1 v1.2.2.2.2.1 v1.2.2.2.2.2) 21 [(0, .ref a0.1), (1, .ref a1.1), (2, .int x2), (4, .int x4), (5, .int x5), (6, .int x6)] [] := by
    intro x2 x4 kk
    induction kk with
    | zero => intro x5 x6 w0 hw; exact hw.elim
    | succ n ih =>
      intro x5 x6 w0 hw
      refine v_iload (pc2 := 23) S 5 dX7_lessenAll_21 rfl rfl ?_
      refine v_bipush (v := 10) (pc2 := 25) S dX7_lessenAll_23 (by decide) rfl ?_
      refine v_icmp_ge (pc2 := 28) (tgt := 175) S dX7_lessenAll_25 (by decide) rfl (fun c4 => ?_) (fun c4 => ?_)
      · have hw := hw.1 c4
        refine v_iload (pc2 := 177) S 4 dX7_lessenAll_175 rfl rfl ?_
        exact v_iret S ⟨x5, w0, rfl, rfl, hw⟩ dX7_lessenAll_177
      · have hw := hw.2 c4
        refine v_aload_n (pc2 := 29) S 1 dX7_lessenAll_28 rfl rfl rfl ?_
        refine v_iload (pc2 := 31) S 5 dX7_lessenAll_29 rfl rfl ?_
        refine v_callV (pc2 := 34) (As := [.int x6]) (rest := []) S (c_X3_lesserHall l G a1 v1 x6 _ hw) mf_X3_lesserHall u_386 u_387 u_388 0 3 rfl rfl rfl rfl ⟨rfl, rfl⟩ ⟨Nat.le_of_ble_eq_true rfl, Nat.le_of_ble_eq_true rfl⟩ ⟨Nat.le_of_ble_eq_true rfl, Nat.le_of_ble_eq_true rfl⟩ (Nat.le_of_ble_eq_true rfl) dX7_lessenAll_31 (frM (wWays G a0 w0.1 w0.2.1 w0.2.2) (wLoom G a1 v1.1 v1.2.1 v1.2.2.1 v1.2.2.2.1 v1.2.2.2.2.1 v1.2.2.2.2.2) ([])) rfl (pi (fun r5 u6 hw => ?_))
        refine v_to (wWays G a0 w0.1 w0.2.1 w0.2.2 ++ wLoom G a1 v1.1 v1.2.1 v1.2.2.1 v1.2.2.2.1 v1.2.2.2.2.1 v1.2.2.2.2.2) 34 [(0, .ref a0.1), (1, .ref a1.1), (2, .int x2), (4, .int x4), (5, .int x5), (6, .int x6)] _ [.int r5] rfl rfl rfl rfl ?_
        refine v_istore (lv2 := [(0, .ref a0.1), (1, .ref a1.1), (2, .int x2), (4, .int x4), (5, .int x5), (6, .int x6), (7, .int r5)]) (pc2 := 36) S dX7_lessenAll_34 (by decide) [1, 2, 3, 4, 5, 6, 0] rfl rfl ?_
        refine v_aload_n (pc2 := 37) S 1 dX7_lessenAll_36 rfl rfl rfl ?_
        refine v_iload (pc2 := 39) S 5 dX7_lessenAll_37 rfl rfl ?_
        refine v_callV (pc2 := 42) (As := [.int x6]) (rest := []) S (c_X3_greaterHall l G a1 v1 x6 _ hw) mf_X3_greaterHall u_390 u_391 u_392 0 3 rfl rfl rfl rfl ⟨rfl, rfl⟩ ⟨Nat.le_of_ble_eq_true rfl, Nat.le_of_ble_eq_true rfl⟩ ⟨Nat.le_of_ble_eq_true rfl, Nat.le_of_ble_eq_true rfl⟩ (Nat.le_of_ble_eq_true rfl) dX7_lessenAll_39 (frM (wWays G a0 w0.1 w0.2.1 w0.2.2) (wLoom G a1 v1.1 v1.2.1 v1.2.2.1 v1.2.2.2.1 v1.2.2.2.2.1 v1.2.2.2.2.2) ([])) rfl (pi (fun r7 u8 hw => ?_))
        refine v_to (wWays G a0 w0.1 w0.2.1 w0.2.2 ++ wLoom G a1 v1.1 v1.2.1 v1.2.2.1 v1.2.2.2.1 v1.2.2.2.2.1 v1.2.2.2.2.2) 42 [(0, .ref a0.1), (1, .ref a1.1), (2, .int x2), (4, .int x4), (5, .int x5), (6, .int x6), (7, .int r5)] _ [.int r7] rfl rfl rfl rfl ?_
        refine v_istore (lv2 := [(0, .ref a0.1), (1, .ref a1.1), (2, .int x2), (4, .int x4), (5, .int x5), (6, .int x6), (7, .int r5), (8, .int r7)]) (pc2 := 44) S dX7_lessenAll_42 (by decide) [1, 2, 3, 4, 5, 6, 7, 0] rfl rfl ?_
        refine v_iload_n (pc2 := 45) S 2 dX7_lessenAll_44 rfl rfl rfl ?_
        refine v_iload (pc2 := 47) S 5 dX7_lessenAll_45 rfl rfl ?_
        refine v_callSN (pc2 := 50) (As := [.int x2, .int x6]) (rest := []) S (c_X8_has l G x2 x6 _ hw) mf_X8_has u_351 u_276 rfl rfl ⟨rfl, rfl⟩ ⟨Nat.le_of_ble_eq_true rfl, Nat.le_of_ble_eq_true rfl⟩ ⟨Nat.le_of_ble_eq_true rfl, Nat.le_of_ble_eq_true rfl⟩ (Nat.le_of_ble_eq_true rfl) dX7_lessenAll_47 (frM [] [] _) rfl (pb (fun r9 u10 br9 hw => ?_))
        refine v_to (wWays G a0 w0.1 w0.2.1 w0.2.2 ++ wLoom G a1 v1.1 v1.2.1 v1.2.2.1 v1.2.2.2.1 v1.2.2.2.2.1 v1.2.2.2.2.2) 50 [(0, .ref a0.1), (1, .ref a1.1), (2, .int x2), (4, .int x4), (5, .int x5), (6, .int x6), (7, .int r5), (8, .int r7)] _ [.int r9] rfl rfl rfl rfl ?_
        refine v_if_eq (pc2 := 53) (tgt := 106) S dX7_lessenAll_50 (by decide) rfl (fun c11 => ?_) (fun c11 => ?_)
        · have hw := hw.1 c11
          refine v_iload (pc2 := 108) S 3 dX7_lessenAll_106 rfl rfl ?_
          refine v_iload (pc2 := 110) S 5 dX7_lessenAll_108 rfl rfl ?_
          refine v_callSN (pc2 := 113) (As := [.int x4, .int x6]) (rest := []) S (c_X8_has l G x4 x6 _ hw) mf_X8_has u_351 u_276 rfl rfl ⟨rfl, rfl⟩ ⟨Nat.le_of_ble_eq_true rfl, Nat.le_of_ble_eq_true rfl⟩ ⟨Nat.le_of_ble_eq_true rfl, Nat.le_of_ble_eq_true rfl⟩ (Nat.le_of_ble_eq_true rfl) dX7_lessenAll_110 (frM [] [] _) rfl (pb (fun r12 u13 br12 hw => ?_))
          refine v_to (wWays G a0 w0.1 w0.2.1 w0.2.2 ++ wLoom G a1 v1.1 v1.2.1 v1.2.2.1 v1.2.2.2.1 v1.2.2.2.2.1 v1.2.2.2.2.2) 113 [(0, .ref a0.1), (1, .ref a1.1), (2, .int x2), (4, .int x4), (5, .int x5), (6, .int x6), (7, .int r5), (8, .int r7)] _ [.int r12] rfl rfl rfl rfl ?_
          refine v_if_eq (pc2 := 116) (tgt := 169) S dX7_lessenAll_113 (by decide) rfl (fun c14 => ?_) (fun c14 => ?_)
          · have hw := hw.1 c14
            obtain ⟨z15, ez15⟩ : ∃ y : Int32, y = x6 + (1 : Int32) := ⟨_, rfl⟩
            have hw := hw z15 ez15
            refine v_iinc (v := z15) (lv2 := [(0, .ref a0.1), (1, .ref a1.1), (2, .int x2), (4, .int x4), (5, .int x5), (6, .int z15), (7, .int r5), (8, .int r7)]) (pc2 := 172) S 5 dX7_lessenAll_169 rfl (by rw [ez15]; rfl) (by decide) [1, 2, 3, 4, 5, 0, 6, 7] rfl rfl ?_
            refine v_goto (tgt := 21) S dX7_lessenAll_172 (by decide) ?_
            refine v_lv [(0, .ref a0.1), (1, .ref a1.1), (2, .int x2), (4, .int x4), (5, .int x5), (6, .int z15)] [0, 1, 2, 3, 4, 5] rfl ?_
            exact ih x5 z15 w0 hw
          · have hw := hw.2 c14
            refine v_aload_n (pc2 := 117) S 1 dX7_lessenAll_116 rfl rfl rfl ?_
            refine v_iload_n (pc2 := 118) S 2 dX7_lessenAll_117 rfl rfl rfl ?_
            refine v_iload (pc2 := 120) S 5 dX7_lessenAll_118 rfl rfl ?_
            refine v_callV (pc2 := 123) (As := [.int x2, .int x6]) (rest := []) S (c_X3_afterOpening l G a1 v1 x2 x6 _ hw) mf_X3_afterOpening u_358 u_359 u_360 0 3 rfl rfl rfl rfl ⟨rfl, rfl⟩ ⟨Nat.le_of_ble_eq_true rfl, Nat.le_of_ble_eq_true rfl⟩ ⟨Nat.le_of_ble_eq_true rfl, Nat.le_of_ble_eq_true rfl⟩ (Nat.le_of_ble_eq_true rfl) dX7_lessenAll_120 (frM (wWays G a0 w0.1 w0.2.1 w0.2.2) (wLoom G a1 v1.1 v1.2.1 v1.2.2.1 v1.2.2.2.1 v1.2.2.2.2.1 v1.2.2.2.2.2) ([])) rfl (pi (fun r16 u17 hw => ?_))
            refine v_to (wWays G a0 w0.1 w0.2.1 w0.2.2 ++ wLoom G a1 v1.1 v1.2.1 v1.2.2.1 v1.2.2.2.1 v1.2.2.2.2.1 v1.2.2.2.2.2) 123 [(0, .ref a0.1), (1, .ref a1.1), (2, .int x2), (4, .int x4), (5, .int x5), (6, .int x6), (7, .int r5), (8, .int r7)] _ [.int r16] rfl rfl rfl rfl ?_
            refine v_istore (lv2 := [(0, .ref a0.1), (1, .ref a1.1), (2, .int x2), (4, .int x4), (5, .int x5), (6, .int x6), (7, .int r5), (8, .int r7), (9, .int r16)]) (pc2 := 125) S dX7_lessenAll_123 (by decide) [1, 2, 3, 4, 5, 6, 7, 8, 0] rfl rfl ?_
            exact B125 x2 x4 x5 x6 r5 r7 r16 w0 (wp_X7_lessenAll_L21 v1 x2 x4 Q n) ih hw
        · have hw := hw.2 c11
          refine v_iload (pc2 := 55) S 4 dX7_lessenAll_53 rfl rfl ?_
          refine v_aload_n (pc2 := 56) S 0 dX7_lessenAll_55 rfl rfl rfl ?_
          refine v_iload_n (pc2 := 57) S 2 dX7_lessenAll_56 rfl rfl rfl ?_
          refine v_iload (pc2 := 59) S 6 dX7_lessenAll_57 rfl rfl ?_
          refine v_callSN (pc2 := 62) (As := [.int x2, .int r5]) (rest := [.ref a0.1, .int x5]) S (c_X8_spot l G x2 r5 _ hw) mf_X8_spot u_356 u_325 rfl rfl ⟨rfl, rfl⟩ ⟨Nat.le_of_ble_eq_true rfl, Nat.le_of_ble_eq_true rfl⟩ ⟨Nat.le_of_ble_eq_true rfl, Nat.le_of_ble_eq_true rfl⟩ (Nat.le_of_ble_eq_true rfl) dX7_lessenAll_59 (frM [] [] _) rfl (pi (fun r33 u34 hw => ?_))
          refine v_to (wWays G a0 w0.1 w0.2.1 w0.2.2 ++ wLoom G a1 v1.1 v1.2.1 v1.2.2.1 v1.2.2.2.1 v1.2.2.2.2.1 v1.2.2.2.2.2) 62 [(0, .ref a0.1), (1, .ref a1.1), (2, .int x2), (4, .int x4), (5, .int x5), (6, .int x6), (7, .int r5), (8, .int r7)] _ [.int r33, .ref a0.1, .int x5] rfl rfl rfl rfl ?_
          refine v_iload_n (pc2 := 63) S 2 dX7_lessenAll_62 rfl rfl rfl ?_
          refine v_iload (pc2 := 65) S 7 dX7_lessenAll_63 rfl rfl ?_
          refine v_callSN (pc2 := 68) (As := [.int x2, .int r7]) (rest := [.int r33, .ref a0.1, .int x5]) S (c_X8_spot l G x2 r7 _ hw) mf_X8_spot u_356 u_325 rfl rfl ⟨rfl, rfl⟩ ⟨Nat.le_of_ble_eq_true rfl, Nat.le_of_ble_eq_true rfl⟩ ⟨Nat.le_of_ble_eq_true rfl, Nat.le_of_ble_eq_true rfl⟩ (Nat.le_of_ble_eq_true rfl) dX7_lessenAll_65 (frM [] [] _) rfl (pi (fun r35 u36 hw => ?_))
          refine v_to (wWays G a0 w0.1 w0.2.1 w0.2.2 ++ wLoom G a1 v1.1 v1.2.1 v1.2.2.1 v1.2.2.2.1 v1.2.2.2.2.1 v1.2.2.2.2.2) 68 [(0, .ref a0.1), (1, .ref a1.1), (2, .int x2), (4, .int x4), (5, .int x5), (6, .int x6), (7, .int r5), (8, .int r7)] _ [.int r35, .int r33, .ref a0.1, .int x5] rfl rfl rfl rfl ?_
          refine v_callV (pc2 := 71) (As := [.int r33, .int r35]) (rest := [.int x5]) S (c_X7_lessen l G a0 w0 r33 r35 _ hw) mf_X7_lessen u_394 u_396 u_9 0 7 rfl rfl rfl rfl ⟨rfl, rfl⟩ ⟨Nat.le_of_ble_eq_true rfl, Nat.le_of_ble_eq_true rfl⟩ ⟨Nat.le_of_ble_eq_true rfl, Nat.le_of_ble_eq_true rfl⟩ (Nat.le_of_ble_eq_true rfl) dX7_lessenAll_68 (frM ([]) (wWays G a0 w0.1 w0.2.1 w0.2.2) (wLoom G a1 v1.1 v1.2.1 v1.2.2.1 v1.2.2.2.1 v1.2.2.2.2.1 v1.2.2.2.2.2)) rfl (pi (fun r37 u38 hw => ?_))
          refine v_to (wWays G a0 u38.1 u38.2.1 u38.2.2 ++ wLoom G a1 v1.1 v1.2.1 v1.2.2.1 v1.2.2.2.1 v1.2.2.2.2.1 v1.2.2.2.2.2) 71 [(0, .ref a0.1), (1, .ref a1.1), (2, .int x2), (4, .int x4), (5, .int x5), (6, .int x6), (7, .int r5), (8, .int r7)] _ [.int r37, .int x5] rfl rfl rfl rfl ?_
          refine v_iadd (pc2 := 72) S dX7_lessenAll_71 rfl ?_
          refine v_nm (fun z39 ez39 => ?_)
          have hw := hw z39 ez39
          refine v_istore (lv2 := [(0, .ref a0.1), (1, .ref a1.1), (2, .int x2), (4, .int x4), (5, .int z39), (6, .int x6), (7, .int r5), (8, .int r7)]) (pc2 := 74) S dX7_lessenAll_72 (by decide) [1, 2, 3, 4, 0, 5, 6, 7] rfl rfl ?_
          refine v_iload (pc2 := 76) S 4 dX7_lessenAll_74 rfl rfl ?_
          refine v_aload_n (pc2 := 77) S 0 dX7_lessenAll_76 rfl rfl rfl ?_
          refine v_iload_n (pc2 := 78) S 2 dX7_lessenAll_77 rfl rfl rfl ?_
          refine v_iload (pc2 := 80) S 7 dX7_lessenAll_78 rfl rfl ?_
          refine v_callSN (pc2 := 83) (As := [.int x2, .int r7]) (rest := [.ref a0.1, .int z39]) S (c_X8_spot l G x2 r7 _ hw) mf_X8_spot u_356 u_325 rfl rfl ⟨rfl, rfl⟩ ⟨Nat.le_of_ble_eq_true rfl, Nat.le_of_ble_eq_true rfl⟩ ⟨Nat.le_of_ble_eq_true rfl, Nat.le_of_ble_eq_true rfl⟩ (Nat.le_of_ble_eq_true rfl) dX7_lessenAll_80 (frM [] [] _) rfl (pi (fun r40 u41 hw => ?_))
          refine v_to (wWays G a0 u38.1 u38.2.1 u38.2.2 ++ wLoom G a1 v1.1 v1.2.1 v1.2.2.1 v1.2.2.2.1 v1.2.2.2.2.1 v1.2.2.2.2.2) 83 [(0, .ref a0.1), (1, .ref a1.1), (2, .int x2), (4, .int x4), (5, .int z39), (6, .int x6), (7, .int r5), (8, .int r7)] _ [.int r40, .ref a0.1, .int z39] rfl rfl rfl rfl ?_
          refine v_iload_n (pc2 := 84) S 2 dX7_lessenAll_83 rfl rfl rfl ?_
          refine v_iload (pc2 := 86) S 6 dX7_lessenAll_84 rfl rfl ?_
          refine v_callSN (pc2 := 89) (As := [.int x2, .int r5]) (rest := [.int r40, .ref a0.1, .int z39]) S (c_X8_spot l G x2 r5 _ hw) mf_X8_spot u_356 u_325 rfl rfl ⟨rfl, rfl⟩ ⟨Nat.le_of_ble_eq_true rfl, Nat.le_of_ble_eq_true rfl⟩ ⟨Nat.le_of_ble_eq_true rfl, Nat.le_of_ble_eq_true rfl⟩ (Nat.le_of_ble_eq_true rfl) dX7_lessenAll_86 (frM [] [] _) rfl (pi (fun r42 u43 hw => ?_))
          refine v_to (wWays G a0 u38.1 u38.2.1 u38.2.2 ++ wLoom G a1 v1.1 v1.2.1 v1.2.2.1 v1.2.2.2.1 v1.2.2.2.2.1 v1.2.2.2.2.2) 89 [(0, .ref a0.1), (1, .ref a1.1), (2, .int x2), (4, .int x4), (5, .int z39), (6, .int x6), (7, .int r5), (8, .int r7)] _ [.int r42, .int r40, .ref a0.1, .int z39] rfl rfl rfl rfl ?_
          refine v_callV (pc2 := 92) (As := [.int r40, .int r42]) (rest := [.int z39]) S (c_X7_lessen l G a0 u38 r40 r42 _ hw) mf_X7_lessen u_394 u_396 u_9 0 7 rfl rfl rfl rfl ⟨rfl, rfl⟩ ⟨Nat.le_of_ble_eq_true rfl, Nat.le_of_ble_eq_true rfl⟩ ⟨Nat.le_of_ble_eq_true rfl, Nat.le_of_ble_eq_true rfl⟩ (Nat.le_of_ble_eq_true rfl) dX7_lessenAll_89 (frM ([]) (wWays G a0 u38.1 u38.2.1 u38.2.2) (wLoom G a1 v1.1 v1.2.1 v1.2.2.1 v1.2.2.2.1 v1.2.2.2.2.1 v1.2.2.2.2.2)) rfl (pi (fun r44 u45 hw => ?_))
          refine v_to (wWays G a0 u45.1 u45.2.1 u45.2.2 ++ wLoom G a1 v1.1 v1.2.1 v1.2.2.1 v1.2.2.2.1 v1.2.2.2.2.1 v1.2.2.2.2.2) 92 [(0, .ref a0.1), (1, .ref a1.1), (2, .int x2), (4, .int x4), (5, .int z39), (6, .int x6), (7, .int r5), (8, .int r7)] _ [.int r44, .int z39] rfl rfl rfl rfl ?_
          refine v_iadd (pc2 := 93) S dX7_lessenAll_92 rfl ?_
          refine v_nm (fun z46 ez46 => ?_)
          have hw := hw z46 ez46
          refine v_istore (lv2 := [(0, .ref a0.1), (1, .ref a1.1), (2, .int x2), (4, .int x4), (5, .int z46), (6, .int x6), (7, .int r5), (8, .int r7)]) (pc2 := 95) S dX7_lessenAll_93 (by decide) [1, 2, 3, 4, 0, 5, 6, 7] rfl rfl ?_
          refine v_iload_n (pc2 := 96) S 2 dX7_lessenAll_95 rfl rfl rfl ?_
          refine v_iload (pc2 := 98) S 5 dX7_lessenAll_96 rfl rfl ?_
          refine v_callSN (pc2 := 101) (As := [.int x2, .int x6]) (rest := []) S (c_X8_without l G x2 x6 _ hw) mf_X8_without u_357 u_58 rfl rfl ⟨rfl, rfl⟩ ⟨Nat.le_of_ble_eq_true rfl, Nat.le_of_ble_eq_true rfl⟩ ⟨Nat.le_of_ble_eq_true rfl, Nat.le_of_ble_eq_true rfl⟩ (Nat.le_of_ble_eq_true rfl) dX7_lessenAll_98 (frM [] [] _) rfl (pi (fun r47 u48 hw => ?_))
          refine v_to (wWays G a0 u45.1 u45.2.1 u45.2.2 ++ wLoom G a1 v1.1 v1.2.1 v1.2.2.1 v1.2.2.2.1 v1.2.2.2.2.1 v1.2.2.2.2.2) 101 [(0, .ref a0.1), (1, .ref a1.1), (2, .int x2), (4, .int x4), (5, .int z46), (6, .int x6), (7, .int r5), (8, .int r7)] _ [.int r47] rfl rfl rfl rfl ?_
          refine v_istore (lv2 := [(0, .ref a0.1), (1, .ref a1.1), (2, .int x2), (4, .int x4), (5, .int z46), (6, .int x6), (7, .int r5), (8, .int r7), (9, .int r47)]) (pc2 := 103) S dX7_lessenAll_101 (by decide) [1, 2, 3, 4, 5, 6, 7, 8, 0] rfl rfl ?_
          refine v_goto (tgt := 125) S dX7_lessenAll_103 (by decide) ?_
          exact B125 x2 x4 z46 x6 r5 r7 r47 u45 (wp_X7_lessenAll_L21 v1 x2 x4 Q n) ih hw
  refine v_iload_n (pc2 := 1) S 3 dX7_lessenAll_0 rfl rfl rfl ?_
  refine v_iload_n (pc2 := 2) S 2 dX7_lessenAll_1 rfl rfl rfl ?_
  refine v_iconst (v := -1) (pc2 := 3) S dX7_lessenAll_2 (by decide) rfl ?_
  refine v_ixor (pc2 := 4) S dX7_lessenAll_3 rfl ?_
  refine v_iand (pc2 := 5) S dX7_lessenAll_4 rfl ?_
  refine v_aload_n (pc2 := 6) S 1 dX7_lessenAll_5 rfl rfl rfl ?_
  refine v_iload_n (pc2 := 7) S 2 dX7_lessenAll_6 rfl rfl rfl ?_
  refine v_callV (pc2 := 10) (As := [.int i0]) (rest := [.int (i1 &&& (i0 ^^^ (-1 : Int32)))]) S (c_X3_heldBy l G a1 v1 i0 _ hw) mf_X3_heldBy u_349 u_287 u_288 0 3 rfl rfl rfl rfl ⟨rfl, rfl⟩ ⟨Nat.le_of_ble_eq_true rfl, Nat.le_of_ble_eq_true rfl⟩ ⟨Nat.le_of_ble_eq_true rfl, Nat.le_of_ble_eq_true rfl⟩ (Nat.le_of_ble_eq_true rfl) dX7_lessenAll_7 (frM (wWays G a0 v0.1 v0.2.1 v0.2.2) (wLoom G a1 v1.1 v1.2.1 v1.2.2.1 v1.2.2.2.1 v1.2.2.2.2.1 v1.2.2.2.2.2) ([])) rfl (pi (fun r1 u2 hw => ?_))
  refine v_to (wWays G a0 v0.1 v0.2.1 v0.2.2 ++ wLoom G a1 v1.1 v1.2.1 v1.2.2.1 v1.2.2.2.1 v1.2.2.2.2.1 v1.2.2.2.2.2) 10 [(0, .ref a0.1), (1, .ref a1.1), (2, .int i0), (3, .int i1)] _ [.int r1, .int (i1 &&& (i0 ^^^ (-1 : Int32)))] rfl rfl rfl rfl ?_
  refine v_iconst (v := -1) (pc2 := 11) S dX7_lessenAll_10 (by decide) rfl ?_
  refine v_ixor (pc2 := 12) S dX7_lessenAll_11 rfl ?_
  refine v_iand (pc2 := 13) S dX7_lessenAll_12 rfl ?_
  refine v_nm (fun z3 ez3 => ?_)
  have hw := hw z3 ez3
  refine v_istore (lv2 := [(0, .ref a0.1), (1, .ref a1.1), (2, .int i0), (3, .int i1), (4, .int z3)]) (pc2 := 15) S dX7_lessenAll_13 (by decide) [1, 2, 3, 4, 0] rfl rfl ?_
  refine v_iconst (v := 0) (pc2 := 16) S dX7_lessenAll_15 (by decide) rfl ?_
  refine v_istore (lv2 := [(0, .ref a0.1), (1, .ref a1.1), (2, .int i0), (3, .int i1), (4, .int z3), (5, .int (0 : Int32))]) (pc2 := 18) S dX7_lessenAll_16 (by decide) [1, 2, 3, 4, 5, 0] rfl rfl ?_
  refine v_iconst (v := 0) (pc2 := 19) S dX7_lessenAll_18 (by decide) rfl ?_
  refine v_istore (lv2 := [(0, .ref a0.1), (1, .ref a1.1), (2, .int i0), (3, .int i1), (4, .int z3), (5, .int (0 : Int32)), (6, .int (0 : Int32))]) (pc2 := 21) S dX7_lessenAll_19 (by decide) [1, 2, 3, 4, 5, 6, 0] rfl rfl ?_
  refine v_lv [(0, .ref a0.1), (1, .ref a1.1), (2, .int i0), (4, .int z3), (5, .int (0 : Int32)), (6, .int (0 : Int32))] [0, 1, 2, 4, 5, 6] rfl ?_
  obtain ⟨kk, hw⟩ := hw
  exact L21 i0 z3 kk (0 : Int32) (0 : Int32) v0 hw
set_option maxHeartbeats 4000000 in
set_option maxRecDepth 100000 in
theorem c_X7_fromHallBack (l : Launch) (G : GG) (a0 : WaysA) (a1 : LoomA) (v0 : WaysV) (v1 : LoomV) (i0 : Int32) (i1 : Int32) (i2 : Int32) (Q : Int32 → WaysV → Prop) (hw : wp_X7_fromHallBack v0 v1 i0 i1 i2 Q) : Con l G yX7_fromHallBack cX7_fromHallBack 8 (some .int) { frames := 5, cells := 0, slots := 0, locals := 120 } [.ref a0.1, .ref a1.1, .int i0, .int i1, .int i2] (wWays G a0 v0.1 v0.2.1 v0.2.2 ++ wLoom G a1 v1.1 v1.2.1 v1.2.2.1 v1.2.2.2.1 v1.2.2.2.2.1 v1.2.2.2.2.2) (PI (fun u : WaysV => wWays G a0 u.1 u.2.1 u.2.2 ++ wLoom G a1 v1.1 v1.2.1 v1.2.2.1 v1.2.2.2.1 v1.2.2.2.2.1 v1.2.2.2.2.2) Q) 0 0 := by
  refine con_of RX7 rfl (by decide) [(0, .ref a0.1), (1, .ref a1.1), (2, .int i0), (3, .int i1), (4, .int i2)] rfl (Nat.le_of_ble_eq_true rfl) ?_
  intro p e s m args below meth c S hname
  have B135 : ∀ (x2 : Int32) (w0 : WaysV), wp_X7_fromHallBack_B135 v1 x2 w0 Q → V p l e { frames := 5, cells := 0, slots := 0, locals := 120 } s m args below meth c G (va_A (wWays G a0 v0.1 v0.2.1 v0.2.2 ++ wLoom G a1 v1.1 v1.2.1 v1.2.2.1 v1.2.2.2.1 v1.2.2.2.2.1 v1.2.2.2.2.2) s.heap.size) 8 0 0 (MQ below (EQ G (wWays G a0 v0.1 v0.2.1 v0.2.2 ++ wLoom G a1 v1.1 v1.2.1 v1.2.2.1 v1.2.2.2.1 v1.2.2.2.2.1 v1.2.2.2.2.2) s.heap.size (PI (fun u : WaysV => wWays G a0 u.1 u.2.1 u.2.2 ++ wLoom G a1 v1.1 v1.2.1 v1.2.2.1 v1.2.2.2.1 v1.2.2.2.2.1 v1.2.2.2.2.2) Q)) args s 0 0 (va_A (wWays G a0 v0.1 v0.2.1 v0.2.2 ++ wLoom G a1 v1.1 v1.2.1 v1.2.2.1 v1.2.2.2.1 v1.2.2.2.2.1 v1.2.2.2.2.2) s.heap.size)) (wWays G a0 w0.1 w0.2.1 w0.2.2 ++ wLoom G a1 v1.1 v1.2.1 v1.2.2.1 v1.2.2.2.1 v1.2.2.2.2.1 v1.2.2.2.2.2) 135 [(0, .ref a0.1), (2, .int x2)] [] := by
    intro x2 w0 hw
    refine v_aload_n (pc2 := 136) S 0 dX7_fromHallBack_135 rfl rfl rfl ?_
    refine v_iload_n (pc2 := 137) S 1 dX7_fromHallBack_136 rfl rfl rfl ?_
    refine v_callV (pc2 := 140) (As := [.int x2]) (rest := []) S (c_X7_fewestOf l G a0 w0 x2 _ hw) mf_X7_fewestOf u_341 u_343 u_4 0 7 rfl rfl rfl rfl ⟨rfl, rfl⟩ ⟨Nat.le_of_ble_eq_true rfl, Nat.le_of_ble_eq_true rfl⟩ ⟨Nat.le_of_ble_eq_true rfl, Nat.le_of_ble_eq_true rfl⟩ (Nat.le_of_ble_eq_true rfl) dX7_fromHallBack_137 (frM ([]) (wWays G a0 w0.1 w0.2.1 w0.2.2) (wLoom G a1 v1.1 v1.2.1 v1.2.2.1 v1.2.2.2.1 v1.2.2.2.2.1 v1.2.2.2.2.2)) rfl (pi (fun r7 u8 hw => ?_))
    refine v_to (wWays G a0 w0.1 w0.2.1 w0.2.2 ++ wLoom G a1 v1.1 v1.2.1 v1.2.2.1 v1.2.2.2.1 v1.2.2.2.2.1 v1.2.2.2.2.2) 140 [(0, .ref a0.1), (2, .int x2)] _ [.int r7] rfl rfl rfl rfl ?_
    refine v_sipush (v := 6144) (pc2 := 143) S dX7_fromHallBack_140 (by decide) rfl ?_
    refine v_icmp_ne (pc2 := 146) (tgt := 151) S dX7_fromHallBack_143 (by decide) rfl (fun c9 => ?_) (fun c9 => ?_)
    · have hw := hw.1 c9
      refine v_aload_n (pc2 := 152) S 0 dX7_fromHallBack_151 rfl rfl rfl ?_
      refine v_iload_n (pc2 := 153) S 1 dX7_fromHallBack_152 rfl rfl rfl ?_
      refine v_callV (pc2 := 156) (As := [.int x2]) (rest := []) S (c_X7_fewestOf l G a0 w0 x2 _ hw) mf_X7_fewestOf u_341 u_343 u_4 0 7 rfl rfl rfl rfl ⟨rfl, rfl⟩ ⟨Nat.le_of_ble_eq_true rfl, Nat.le_of_ble_eq_true rfl⟩ ⟨Nat.le_of_ble_eq_true rfl, Nat.le_of_ble_eq_true rfl⟩ (Nat.le_of_ble_eq_true rfl) dX7_fromHallBack_153 (frM ([]) (wWays G a0 w0.1 w0.2.1 w0.2.2) (wLoom G a1 v1.1 v1.2.1 v1.2.2.1 v1.2.2.2.1 v1.2.2.2.2.1 v1.2.2.2.2.2)) rfl (pi (fun r10 u11 hw => ?_))
      refine v_to (wWays G a0 w0.1 w0.2.1 w0.2.2 ++ wLoom G a1 v1.1 v1.2.1 v1.2.2.1 v1.2.2.2.1 v1.2.2.2.2.1 v1.2.2.2.2.2) 156 [(0, .ref a0.1), (2, .int x2)] _ [.int r10] rfl rfl rfl rfl ?_
      exact v_iret S ⟨r10, w0, rfl, rfl, hw⟩ dX7_fromHallBack_156
    · have hw := hw.2 c9
      refine v_bipush (v := -4) (pc2 := 148) S dX7_fromHallBack_146 (by decide) rfl ?_
      refine v_goto (tgt := 156) S dX7_fromHallBack_148 (by decide) ?_
      exact v_iret S ⟨(-4 : Int32), w0, rfl, rfl, hw⟩ dX7_fromHallBack_156
  have L88 : ∀ (x2 : Int32) (x3 : Int32) (x6 : Int32) (K69 : Int32 → Int32 → WaysV → Prop) (hK69 : ∀ (y0 : Int32) (y1 : Int32) (y2 : WaysV), K69 y0 y1 y2 → V p l e { frames := 5, cells := 0, slots := 0, locals := 120 } s m args below meth c G (va_A (wWays G a0 v0.1 v0.2.1 v0.2.2 ++ wLoom G a1 v1.1 v1.2.1 v1.2.2.1 v1.2.2.2.1 v1.2.2.2.2.1 v1.2.2.2.2.2) s.heap.size) 8 0 0 (MQ below (EQ G (wWays G a0 v0.1 v0.2.1 v0.2.2 ++ wLoom G a1 v1.1 v1.2.1 v1.2.2.1 v1.2.2.2.1 v1.2.2.2.2.1 v1.2.2.2.2.2) s.heap.size (PI (fun u : WaysV => wWays G a0 u.1 u.2.1 u.2.2 ++ wLoom G a1 v1.1 v1.2.1 v1.2.2.1 v1.2.2.2.1 v1.2.2.2.2.1 v1.2.2.2.2.2) Q)) args s 0 0 (va_A (wWays G a0 v0.1 v0.2.1 v0.2.2 ++ wLoom G a1 v1.1 v1.2.1 v1.2.2.1 v1.2.2.2.1 v1.2.2.2.2.1 v1.2.2.2.2.2) s.heap.size)) (wWays G a0 y2.1 y2.2.1 y2.2.2 ++ wLoom G a1 v1.1 v1.2.1 v1.2.2.1 v1.2.2.2.1 v1.2.2.2.2.1 v1.2.2.2.2.2) 69 [(0, .ref a0.1), (1, .ref a1.1), (2, .int x2), (3, .int x3), (5, .int y0), (6, .int y1)] []) (kk : Nat) (x5 : Int32) (x7 : Int32) (w0 : WaysV), wp_X7_fromHallBack_L88 v1 x2 x3 x6 Q K69 kk x5 x7 w0 → V p l e { frames := 5, cells := 0, slots := 0, locals := 120 } s m args below meth c G (va_A (wWays G a0 v0.1 v0.2.1 v0.2.2 ++ wLoom G a1 v1.1 v1.2.1 v1.2.2.1 v1.2.2.2.1 v1.2.2.2.2.1 v1.2.2.2.2.2) s.heap.size) 8 0 0 (MQ below (EQ G (wWays G a0 v0.1 v0.2.1 v0.2.2 ++ wLoom G a1 v1.1 v1.2.1 v1.2.2.1 v1.2.2.2.1 v1.2.2.2.2.1 v1.2.2.2.2.2) s.heap.size (PI (fun u : WaysV => wWays G a0 u.1 u.2.1 u.2.2 ++ wLoom G a1 v1.1 v1.2.1 v1.2.2.1 v1.2.2.2.1 v1.2.2.2.2.1 v1.2.2.2.2.2) Q)) args s 0 0 (va_A (wWays G a0 v0.1 v0.2.1 v0.2.2 ++ wLoom G a1 v1.1 v1.2.1 v1.2.2.1 v1.2.2.2.1 v1.2.2.2.2.1 v1.2.2.2.2.2) s.heap.size)) (wWays G a0 w0.1 w0.2.1 w0.2.2 ++ wLoom G a1 v1.1 v1.2.1 v1.2.2.1 v1.2.2.2.1 v1.2.2.2.2.1 v1.2.2.2.2.2) 88 [(0, .ref a0.1), (1, .ref a1.1), (2, .int x2), (3, .int x3), (5, .int x5), (6, .int x6), (7, .int x7)] [] := by
    intro x2 x3 x6 K69 hK69 kk
    induction kk with
    | zero => intro x5 x7 w0 hw; exact hw.elim
    | succ n ih =>
      intro x5 x7 w0 hw
      refine v_iload (pc2 := 90) S 6 dX7_fromHallBack_88 rfl rfl ?_
      refine v_aload_n (pc2 := 91) S 0 dX7_fromHallBack_90 rfl rfl rfl ?_
      refine v_get (v := .int w0.2.2) (pc2 := 94) S gf_X7_18 0 rfl rfl dX7_fromHallBack_91 rfl ?_
      refine v_icmp_ge (pc2 := 97) (tgt := 129) S dX7_fromHallBack_94 (by decide) rfl (fun c13 => ?_) (fun c13 => ?_)
      · have hw := hw.1 c13
        obtain ⟨z14, ez14⟩ : ∃ y : Int32, y = x6 + (1 : Int32) := ⟨_, rfl⟩
        have hw := hw z14 ez14
        refine v_iinc (v := z14) (lv2 := [(0, .ref a0.1), (1, .ref a1.1), (2, .int x2), (3, .int x3), (5, .int x5), (6, .int z14), (7, .int x7)]) (pc2 := 132) S 5 dX7_fromHallBack_129 rfl (by rw [ez14]; rfl) (by decide) [1, 2, 3, 4, 5, 0, 6] rfl rfl ?_
        refine v_goto (tgt := 69) S dX7_fromHallBack_132 (by decide) ?_
        refine v_lv [(0, .ref a0.1), (1, .ref a1.1), (2, .int x2), (3, .int x3), (5, .int x5), (6, .int z14)] [0, 1, 2, 3, 4, 5] rfl ?_
        exact hK69 x5 z14 w0 hw
      · have hw := hw.2 c13
        refine v_iload (pc2 := 99) S 6 dX7_fromHallBack_97 rfl rfl ?_
        refine v_sipush (v := 6144) (pc2 := 102) S dX7_fromHallBack_99 (by decide) rfl ?_
        refine v_icmp_ge (pc2 := 105) (tgt := 129) S dX7_fromHallBack_102 (by decide) rfl (fun c15 => ?_) (fun c15 => ?_)
        · have hw := hw.1 c15
          obtain ⟨z16, ez16⟩ : ∃ y : Int32, y = x6 + (1 : Int32) := ⟨_, rfl⟩
          have hw := hw z16 ez16
          refine v_iinc (v := z16) (lv2 := [(0, .ref a0.1), (1, .ref a1.1), (2, .int x2), (3, .int x3), (5, .int x5), (6, .int z16), (7, .int x7)]) (pc2 := 132) S 5 dX7_fromHallBack_129 rfl (by rw [ez16]; rfl) (by decide) [1, 2, 3, 4, 5, 0, 6] rfl rfl ?_
          refine v_goto (tgt := 69) S dX7_fromHallBack_132 (by decide) ?_
          refine v_lv [(0, .ref a0.1), (1, .ref a1.1), (2, .int x2), (3, .int x3), (5, .int x5), (6, .int z16)] [0, 1, 2, 3, 4, 5] rfl ?_
          exact hK69 x5 z16 w0 hw
        · have hw := hw.2 c15
          refine v_iload (pc2 := 107) S 4 dX7_fromHallBack_105 rfl rfl ?_
          refine v_aload_n (pc2 := 108) S 0 dX7_fromHallBack_107 rfl rfl rfl ?_
          refine v_aload_n (pc2 := 109) S 1 dX7_fromHallBack_108 rfl rfl rfl ?_
          refine v_aload_n (pc2 := 110) S 0 dX7_fromHallBack_109 rfl rfl rfl ?_
          refine v_get (v := .ref a0.2.2) (pc2 := 113) S gf_X7_15 0 rfl rfl dX7_fromHallBack_110 rfl ?_
          refine v_iload (pc2 := 115) S 6 dX7_fromHallBack_113 rfl rfl ?_
          obtain ⟨h17, hw⟩ := hw
          refine v_iald (pc2 := 116) S 2 rfl h17 dX7_fromHallBack_115 rfl ?_
          refine v_iload_n (pc2 := 117) S 3 dX7_fromHallBack_116 rfl rfl rfl ?_
          refine v_callV (pc2 := 120) (As := [.ref a1.1, .int (w0.2.1 x7.toNatClampNeg), .int x3]) (rest := [.int x5]) S (c_X7_lessenAll l G a0 a1 w0 v1 (w0.2.1 x7.toNatClampNeg) x3 _ hw) mf_X7_lessenAll u_382 u_384 u_8 0 7 rfl rfl rfl rfl ⟨rfl, rfl⟩ ⟨Nat.le_of_ble_eq_true rfl, Nat.le_of_ble_eq_true rfl⟩ ⟨Nat.le_of_ble_eq_true rfl, Nat.le_of_ble_eq_true rfl⟩ (Nat.le_of_ble_eq_true rfl) dX7_fromHallBack_117 (frW _) rfl (pi (fun r18 u19 hw => ?_))
          refine v_to (wWays G a0 u19.1 u19.2.1 u19.2.2 ++ wLoom G a1 v1.1 v1.2.1 v1.2.2.1 v1.2.2.2.1 v1.2.2.2.2.1 v1.2.2.2.2.2) 120 [(0, .ref a0.1), (1, .ref a1.1), (2, .int x2), (3, .int x3), (5, .int x5), (6, .int x6), (7, .int x7)] _ [.int r18, .int x5] rfl rfl rfl rfl ?_
          refine v_iadd (pc2 := 121) S dX7_fromHallBack_120 rfl ?_
          refine v_nm (fun z20 ez20 => ?_)
          have hw := hw z20 ez20
          refine v_istore (lv2 := [(0, .ref a0.1), (1, .ref a1.1), (2, .int x2), (3, .int x3), (5, .int z20), (6, .int x6), (7, .int x7)]) (pc2 := 123) S dX7_fromHallBack_121 (by decide) [1, 2, 3, 4, 0, 5, 6] rfl rfl ?_
          obtain ⟨z21, ez21⟩ : ∃ y : Int32, y = x7 + (1 : Int32) := ⟨_, rfl⟩
          have hw := hw z21 ez21
          refine v_iinc (v := z21) (lv2 := [(0, .ref a0.1), (1, .ref a1.1), (2, .int x2), (3, .int x3), (5, .int z20), (6, .int x6), (7, .int z21)]) (pc2 := 126) S 6 dX7_fromHallBack_123 rfl (by rw [ez21]; rfl) (by decide) [1, 2, 3, 4, 5, 6, 0] rfl rfl ?_
          refine v_goto (tgt := 88) S dX7_fromHallBack_126 (by decide) ?_
          exact ih z20 z21 u19 hw
  have L69 : ∀ (x2 : Int32) (x3 : Int32) (kk : Nat) (x5 : Int32) (x6 : Int32) (w0 : WaysV), wp_X7_fromHallBack_L69 v1 x2 x3 Q kk x5 x6 w0 → V p l e { frames := 5, cells := 0, slots := 0, locals := 120 } s m args below meth c G (va_A (wWays G a0 v0.1 v0.2.1 v0.2.2 ++ wLoom G a1 v1.1 v1.2.1 v1.2.2.1 v1.2.2.2.1 v1.2.2.2.2.1 v1.2.2.2.2.2) s.heap.size) 8 0 0 (MQ below (EQ G (wWays G a0 v0.1 v0.2.1 v0.2.2 ++ wLoom G a1 v1.1 v1.2.1 v1.2.2.1 v1.2.2.2.1 v1.2.2.2.2.1 v1.2.2.2.2.2) s.heap.size (PI (fun u : WaysV => wWays G a0 u.1 u.2.1 u.2.2 ++ wLoom G a1 v1.1 v1.2.1 v1.2.2.1 v1.2.2.2.1 v1.2.2.2.2.1 v1.2.2.2.2.2) Q)) args s 0 0 (va_A (wWays G a0 v0.1 v0.2.1 v0.2.2 ++ wLoom G a1 v1.1 v1.2.1 v1.2.2.1 v1.2.2.2.1 v1.2.2.2.2.1 v1.2.2.2.2.2) s.heap.size)) (wWays G a0 w0.1 w0.2.1 w0.2.2 ++ wLoom G a1 v1.1 v1.2.1 v1.2.2.1 v1.2.2.2.1 v1.2.2.2.2.1 v1.2.2.2.2.2) 69 [(0, .ref a0.1), (1, .ref a1.1), (2, .int x2), (3, .int x3), (5, .int x5), (6, .int x6)] [] := by
    intro x2 x3 kk
    induction kk with
    | zero => intro x5 x6 w0 hw; exact hw.elim
    | succ n ih =>
      intro x5 x6 w0 hw
      refine v_iload (pc2 := 71) S 5 dX7_fromHallBack_69 rfl rfl ?_
      refine v_sipush (v := 6144) (pc2 := 74) S dX7_fromHallBack_71 (by decide) rfl ?_
      refine v_icmp_ge (pc2 := 77) (tgt := 135) S dX7_fromHallBack_74 (by decide) rfl (fun c6 => ?_) (fun c6 => ?_)
      · have hw := hw.1 c6
        refine v_lv [(0, .ref a0.1), (2, .int x2)] [0, 2] rfl ?_
        exact B135 x2 w0 hw
      · have hw := hw.2 c6
        refine v_iload (pc2 := 79) S 4 dX7_fromHallBack_77 rfl rfl ?_
        refine v_if_le (pc2 := 82) (tgt := 135) S dX7_fromHallBack_79 (by decide) rfl (fun c12 => ?_) (fun c12 => ?_)
        · have hw := hw.1 c12
          refine v_lv [(0, .ref a0.1), (2, .int x2)] [0, 2] rfl ?_
          exact B135 x2 w0 hw
        · have hw := hw.2 c12
          refine v_iconst (v := 0) (pc2 := 83) S dX7_fromHallBack_82 (by decide) rfl ?_
          refine v_istore (lv2 := [(0, .ref a0.1), (1, .ref a1.1), (2, .int x2), (3, .int x3), (5, .int (0 : Int32)), (6, .int x6)]) (pc2 := 85) S dX7_fromHallBack_83 (by decide) [1, 2, 3, 4, 0, 5] rfl rfl ?_
          refine v_iconst (v := 0) (pc2 := 86) S dX7_fromHallBack_85 (by decide) rfl ?_
          refine v_istore (lv2 := [(0, .ref a0.1), (1, .ref a1.1), (2, .int x2), (3, .int x3), (5, .int (0 : Int32)), (6, .int x6), (7, .int (0 : Int32))]) (pc2 := 88) S dX7_fromHallBack_86 (by decide) [1, 2, 3, 4, 5, 6, 0] rfl rfl ?_
          obtain ⟨kk, hw⟩ := hw
          exact L88 x2 x3 x6 (wp_X7_fromHallBack_L69 v1 x2 x3 Q n) ih kk (0 : Int32) (0 : Int32) w0 hw
  have L24 : ∀ (x2 : Int32) (x3 : Int32) (x4 : Int32) (kk : Nat) (x5 : Int32) (w0 : WaysV), wp_X7_fromHallBack_L24 v1 x2 x3 x4 Q kk x5 w0 → V p l e { frames := 5, cells := 0, slots := 0, locals := 120 } s m args below meth c G (va_A (wWays G a0 v0.1 v0.2.1 v0.2.2 ++ wLoom G a1 v1.1 v1.2.1 v1.2.2.1 v1.2.2.2.1 v1.2.2.2.2.1 v1.2.2.2.2.2) s.heap.size) 8 0 0 (MQ below (EQ G (wWays G a0 v0.1 v0.2.1 v0.2.2 ++ wLoom G a1 v1.1 v1.2.1 v1.2.2.1 v1.2.2.2.1 v1.2.2.2.2.1 v1.2.2.2.2.2) s.heap.size (PI (fun u : WaysV => wWays G a0 u.1 u.2.1 u.2.2 ++ wLoom G a1 v1.1 v1.2.1 v1.2.2.1 v1.2.2.2.1 v1.2.2.2.2.1 v1.2.2.2.2.2) Q)) args s 0 0 (va_A (wWays G a0 v0.1 v0.2.1 v0.2.2 ++ wLoom G a1 v1.1 v1.2.1 v1.2.2.1 v1.2.2.2.1 v1.2.2.2.2.1 v1.2.2.2.2.2) s.heap.size)) (wWays G a0 w0.1 w0.2.1 w0.2.2 ++ wLoom G a1 v1.1 v1.2.1 v1.2.2.1 v1.2.2.2.1 v1.2.2.2.2.1 v1.2.2.2.2.2) 24 [(0, .ref a0.1), (1, .ref a1.1), (2, .int x2), (3, .int x3), (4, .int x4), (5, .int x5)] [] := by
    intro x2 x3 x4 kk
    induction kk with
    | zero => intro x5 w0 hw; exact hw.elim
    | succ n ih =>
      intro x5 w0 hw
      refine v_iload (pc2 := 26) S 5 dX7_fromHallBack_24 rfl rfl ?_
      refine v_aload_n (pc2 := 27) S 0 dX7_fromHallBack_26 rfl rfl rfl ?_
      refine v_get (v := .int w0.2.2) (pc2 := 30) S gf_X7_18 0 rfl rfl dX7_fromHallBack_27 rfl ?_
      refine v_icmp_ge (pc2 := 33) (tgt := 63) S dX7_fromHallBack_30 (by decide) rfl (fun c5 => ?_) (fun c5 => ?_)
      · have hw := hw.1 c5
        refine v_iconst (v := 1) (pc2 := 64) S dX7_fromHallBack_63 (by decide) rfl ?_
        refine v_istore (lv2 := [(0, .ref a0.1), (1, .ref a1.1), (2, .int x2), (3, .int x3), (4, .int x4), (5, .int (1 : Int32))]) (pc2 := 66) S dX7_fromHallBack_64 (by decide) [1, 2, 3, 4, 5, 0] rfl rfl ?_
        refine v_iconst (v := 0) (pc2 := 67) S dX7_fromHallBack_66 (by decide) rfl ?_
        refine v_istore (lv2 := [(0, .ref a0.1), (1, .ref a1.1), (2, .int x2), (3, .int x3), (4, .int x4), (5, .int (1 : Int32)), (6, .int (0 : Int32))]) (pc2 := 69) S dX7_fromHallBack_67 (by decide) [1, 2, 3, 4, 5, 6, 0] rfl rfl ?_
        refine v_lv [(0, .ref a0.1), (1, .ref a1.1), (2, .int x2), (3, .int x3), (5, .int (1 : Int32)), (6, .int (0 : Int32))] [0, 1, 2, 3, 5, 6] rfl ?_
        obtain ⟨kk, hw⟩ := hw
        exact L69 x2 x3 kk (1 : Int32) (0 : Int32) w0 hw
      · have hw := hw.2 c5
        refine v_iload (pc2 := 35) S 5 dX7_fromHallBack_33 rfl rfl ?_
        refine v_sipush (v := 6144) (pc2 := 38) S dX7_fromHallBack_35 (by decide) rfl ?_
        refine v_icmp_ge (pc2 := 41) (tgt := 63) S dX7_fromHallBack_38 (by decide) rfl (fun c22 => ?_) (fun c22 => ?_)
        · have hw := hw.1 c22
          refine v_iconst (v := 1) (pc2 := 64) S dX7_fromHallBack_63 (by decide) rfl ?_
          refine v_istore (lv2 := [(0, .ref a0.1), (1, .ref a1.1), (2, .int x2), (3, .int x3), (4, .int x4), (5, .int (1 : Int32))]) (pc2 := 66) S dX7_fromHallBack_64 (by decide) [1, 2, 3, 4, 5, 0] rfl rfl ?_
          refine v_iconst (v := 0) (pc2 := 67) S dX7_fromHallBack_66 (by decide) rfl ?_
          refine v_istore (lv2 := [(0, .ref a0.1), (1, .ref a1.1), (2, .int x2), (3, .int x3), (4, .int x4), (5, .int (1 : Int32)), (6, .int (0 : Int32))]) (pc2 := 69) S dX7_fromHallBack_67 (by decide) [1, 2, 3, 4, 5, 6, 0] rfl rfl ?_
          refine v_lv [(0, .ref a0.1), (1, .ref a1.1), (2, .int x2), (3, .int x3), (5, .int (1 : Int32)), (6, .int (0 : Int32))] [0, 1, 2, 3, 5, 6] rfl ?_
          obtain ⟨kk, hw⟩ := hw
          exact L69 x2 x3 kk (1 : Int32) (0 : Int32) w0 hw
        · have hw := hw.2 c22
          refine v_aload_n (pc2 := 42) S 0 dX7_fromHallBack_41 rfl rfl rfl ?_
          refine v_aload_n (pc2 := 43) S 0 dX7_fromHallBack_42 rfl rfl rfl ?_
          refine v_get (v := .ref a0.2.2) (pc2 := 46) S gf_X7_15 0 rfl rfl dX7_fromHallBack_43 rfl ?_
          refine v_iload (pc2 := 48) S 5 dX7_fromHallBack_46 rfl rfl ?_
          obtain ⟨h23, hw⟩ := hw
          refine v_iald (pc2 := 49) S 2 rfl h23 dX7_fromHallBack_48 rfl ?_
          refine v_iload (pc2 := 51) S 4 dX7_fromHallBack_49 rfl rfl ?_
          refine v_callSN (pc2 := 54) (As := [.int (w0.2.1 x5.toNatClampNeg), .int x4]) (rest := [.ref a0.1]) S (c_X8_spot l G (w0.2.1 x5.toNatClampNeg) x4 _ hw) mf_X8_spot u_356 u_325 rfl rfl ⟨rfl, rfl⟩ ⟨Nat.le_of_ble_eq_true rfl, Nat.le_of_ble_eq_true rfl⟩ ⟨Nat.le_of_ble_eq_true rfl, Nat.le_of_ble_eq_true rfl⟩ (Nat.le_of_ble_eq_true rfl) dX7_fromHallBack_51 (frM [] [] _) rfl (pi (fun r24 u25 hw => ?_))
          refine v_to (wWays G a0 w0.1 w0.2.1 w0.2.2 ++ wLoom G a1 v1.1 v1.2.1 v1.2.2.1 v1.2.2.2.1 v1.2.2.2.2.1 v1.2.2.2.2.2) 54 [(0, .ref a0.1), (1, .ref a1.1), (2, .int x2), (3, .int x3), (4, .int x4), (5, .int x5)] _ [.int r24, .ref a0.1] rfl rfl rfl rfl ?_
          refine v_callV (pc2 := 57) (As := [.int r24]) (rest := []) S (c_X7_begin l G a0 w0 r24 _ hw) mf_X7_begin u_378 u_380 u_7 0 7 rfl rfl rfl rfl ⟨rfl, rfl⟩ ⟨Nat.le_of_ble_eq_true rfl, Nat.le_of_ble_eq_true rfl⟩ ⟨Nat.le_of_ble_eq_true rfl, Nat.le_of_ble_eq_true rfl⟩ (Nat.le_of_ble_eq_true rfl) dX7_fromHallBack_54 (frM ([]) (wWays G a0 w0.1 w0.2.1 w0.2.2) (wLoom G a1 v1.1 v1.2.1 v1.2.2.1 v1.2.2.2.1 v1.2.2.2.2.1 v1.2.2.2.2.2)) rfl (pv (fun u27 hw => ?_))
          refine v_to (wWays G a0 u27.1 u27.2.1 u27.2.2 ++ wLoom G a1 v1.1 v1.2.1 v1.2.2.1 v1.2.2.2.1 v1.2.2.2.2.1 v1.2.2.2.2.2) 57 [(0, .ref a0.1), (1, .ref a1.1), (2, .int x2), (3, .int x3), (4, .int x4), (5, .int x5)] _ [] rfl rfl rfl rfl ?_
          obtain ⟨z28, ez28⟩ : ∃ y : Int32, y = x5 + (1 : Int32) := ⟨_, rfl⟩
          have hw := hw z28 ez28
          refine v_iinc (v := z28) (lv2 := [(0, .ref a0.1), (1, .ref a1.1), (2, .int x2), (3, .int x3), (4, .int x4), (5, .int z28)]) (pc2 := 60) S 5 dX7_fromHallBack_57 rfl (by rw [ez28]; rfl) (by decide) [1, 2, 3, 4, 5, 0] rfl rfl ?_
          refine v_goto (tgt := 24) S dX7_fromHallBack_60 (by decide) ?_
          exact ih z28 u27 hw
  refine v_aload_n (pc2 := 1) S 0 dX7_fromHallBack_0 rfl rfl rfl ?_
  refine v_get (v := .ref a0.2.1) (pc2 := 4) S gf_X7_9 0 rfl rfl dX7_fromHallBack_1 rfl ?_
  refine v_sipush (v := 6144) (pc2 := 7) S dX7_fromHallBack_4 (by decide) rfl ?_
  refine v_callS (pc2 := 10) (As := [.ref a0.2.1, .int (6144 : Int32)]) (rest := []) S (c_J7_fill_53178 l G 6144 a0.2.1 v0.1 (6144 : Int32) _ hw) mf_J7_fill_53178 u_331 u_332 rfl rfl ⟨rfl, rfl⟩ ⟨Nat.le_of_ble_eq_true rfl, Nat.le_of_ble_eq_true rfl⟩ ⟨Nat.le_of_ble_eq_true rfl, Nat.le_of_ble_eq_true rfl⟩ (Nat.le_of_ble_eq_true rfl) dX7_fromHallBack_7 (frM ([(a0.1, .inr (7, [.ref a0.2.1, .ref a0.2.2, .int v0.2.2]))]) ([(a0.2.1, .inl (G.2.1, 6144, .inl v0.1))]) (([(a0.2.2, .inl (G.2.1, 6144, .inl v0.2.1))] : va_W) ++ (wLoom G a1 v1.1 v1.2.1 v1.2.2.1 v1.2.2.2.1 v1.2.2.2.2.1 v1.2.2.2.2.2))) rfl (pv (fun u2 hw => ?_))
  refine v_to (wWays G a0 u2 v0.2.1 v0.2.2 ++ wLoom G a1 v1.1 v1.2.1 v1.2.2.1 v1.2.2.2.1 v1.2.2.2.2.1 v1.2.2.2.2.2) 10 [(0, .ref a0.1), (1, .ref a1.1), (2, .int i0), (3, .int i1), (4, .int i2)] _ [] rfl rfl rfl rfl ?_
  refine v_aload_n (pc2 := 11) S 0 dX7_fromHallBack_10 rfl rfl rfl ?_
  refine v_aload_n (pc2 := 12) S 1 dX7_fromHallBack_11 rfl rfl rfl ?_
  refine v_iload_n (pc2 := 13) S 2 dX7_fromHallBack_12 rfl rfl rfl ?_
  refine v_bipush (v := 6) (pc2 := 15) S dX7_fromHallBack_13 (by decide) rfl ?_
  refine v_idiv (pc2 := 16) S (by decide) dX7_fromHallBack_15 rfl ?_
  refine v_iload_n (pc2 := 17) S 3 dX7_fromHallBack_16 rfl rfl rfl ?_
  refine v_ior (pc2 := 18) S dX7_fromHallBack_17 rfl ?_
  refine v_callV (pc2 := 21) (As := [.ref a1.1, .int ((i0 / (6 : Int32)) ||| i1)]) (rest := []) S (c_X7_lineUpSets l G a0 a1 (u2, v0.2.1, v0.2.2) v1 ((i0 / (6 : Int32)) ||| i1) _ hw) mf_X7_lineUpSets u_374 u_376 u_6 0 7 rfl rfl rfl rfl ⟨rfl, rfl⟩ ⟨Nat.le_of_ble_eq_true rfl, Nat.le_of_ble_eq_true rfl⟩ ⟨Nat.le_of_ble_eq_true rfl, Nat.le_of_ble_eq_true rfl⟩ (Nat.le_of_ble_eq_true rfl) dX7_fromHallBack_18 (frW _) rfl (pv (fun u4 hw => ?_))
  refine v_to (wWays G a0 u4.1 u4.2.1 u4.2.2 ++ wLoom G a1 v1.1 v1.2.1 v1.2.2.1 v1.2.2.2.1 v1.2.2.2.2.1 v1.2.2.2.2.2) 21 [(0, .ref a0.1), (1, .ref a1.1), (2, .int i0), (3, .int i1), (4, .int i2)] _ [] rfl rfl rfl rfl ?_
  refine v_iconst (v := 0) (pc2 := 22) S dX7_fromHallBack_21 (by decide) rfl ?_
  refine v_istore (lv2 := [(0, .ref a0.1), (1, .ref a1.1), (2, .int i0), (3, .int i1), (4, .int i2), (5, .int (0 : Int32))]) (pc2 := 24) S dX7_fromHallBack_22 (by decide) [1, 2, 3, 4, 5, 0] rfl rfl ?_
  obtain ⟨kk, hw⟩ := hw
  exact L24 i0 i1 i2 kk (0 : Int32) u4 hw
