set_option maxHeartbeats 4000000 in
set_option maxRecDepth 100000 in
theorem c_X7_init (l : Launch) (G : GG) (a0 : Nat) (Q : WaysV → Prop) (hw : wp_X7_init Q) : Con l G yX7_init cX7_init 1 none { frames := 1, cells := 2, slots := 12288, locals := 20 } [.ref a0] [(a0, .inr (7, [.null, .null, .int 0]))] (PV (fun u : WaysA × WaysV => wWays G u.1 u.2.1 u.2.2.1 u.2.2.2) (fun u => u.1.1 = a0 ∧ Q u.2)) 2 12288 := by
  refine con_of RX7 rfl (by decide) [(0, .ref a0)] rfl (Nat.le_of_ble_eq_true rfl) ?_
  intro p e s m args below meth c S hname
  refine v_aload_n (pc2 := 1) S 0 dX7_init_0 rfl rfl rfl ?_
  refine v_objInit (pc2 := 4) S u_257 u_80 u_81 (Nat.le_of_ble_eq_true rfl) (Nat.le_of_ble_eq_true rfl) dX7_init_1 rfl ?_
  refine v_aload_n (pc2 := 5) S 0 dX7_init_4 rfl rfl rfl ?_
  refine v_sipush (v := 6144) (pc2 := 8) S dX7_init_5 (by decide) rfl ?_
  refine v_newa (pc2 := 10) (N := 6144) S u_124 (by decide) (by decide) (Nat.le_of_ble_eq_true rfl) (Nat.le_of_ble_eq_true rfl) (Nat.le_of_ble_eq_true rfl) dX7_init_8 rfl (fun q1 => ?_)
  refine v_to ([(a0, .inr (7, [.null, .null, .int 0])), (q1, .inl (G.2.1, 6144, .inl (fun _ => 0)))]) 10 [(0, .ref a0)] _ [.ref q1, .ref a0] rfl rfl rfl rfl ?_
  refine v_putF (ws2 := [(a0, .inr (7, [.ref q1, .null, .int 0])), (q1, .inl (G.2.1, 6144, .inl (fun _ => 0)))]) (pc2 := 13) S (show meth.name = "<init>" from hname) gf_X7_9 pf_X7_0 rfl 0 rfl rfl rfl (Nat.le_of_ble_eq_true rfl) rfl dX7_init_10 rfl ?_
  refine v_aload_n (pc2 := 14) S 0 dX7_init_13 rfl rfl rfl ?_
  refine v_sipush (v := 6144) (pc2 := 17) S dX7_init_14 (by decide) rfl ?_
  refine v_newa (pc2 := 19) (N := 6144) S u_124 (by decide) (by decide) (Nat.le_of_ble_eq_true rfl) (Nat.le_of_ble_eq_true rfl) (Nat.le_of_ble_eq_true rfl) dX7_init_17 rfl (fun q2 => ?_)
  refine v_to ([(a0, .inr (7, [.ref q1, .null, .int 0])), (q1, .inl (G.2.1, 6144, .inl (fun _ => 0))), (q2, .inl (G.2.1, 6144, .inl (fun _ => 0)))]) 19 [(0, .ref a0)] _ [.ref q2, .ref a0] rfl rfl rfl rfl ?_
  refine v_putF (ws2 := [(a0, .inr (7, [.ref q1, .ref q2, .int 0])), (q1, .inl (G.2.1, 6144, .inl (fun _ => 0))), (q2, .inl (G.2.1, 6144, .inl (fun _ => 0)))]) (pc2 := 22) S (show meth.name = "<init>" from hname) gf_X7_15 pf_X7_1 rfl 0 rfl rfl rfl (Nat.le_of_ble_eq_true rfl) rfl dX7_init_19 rfl ?_
  refine v_aload_n (pc2 := 23) S 0 dX7_init_22 rfl rfl rfl ?_
  refine v_iconst (v := 0) (pc2 := 24) S dX7_init_23 (by decide) rfl ?_
  refine v_put (ws2 := [(a0, .inr (7, [.ref q1, .ref q2, .int (0 : Int32)])), (q1, .inl (G.2.1, 6144, .inl (fun _ => 0))), (q2, .inl (G.2.1, 6144, .inl (fun _ => 0)))]) (pc2 := 27) S gf_X7_18 pf_X7_2 0 rfl rfl rfl (Nat.le_of_ble_eq_true rfl) rfl dX7_init_24 rfl ?_
  refine v_to (wWays G (a0, q1, q2) (fun _ => 0) (fun _ => 0) (0 : Int32)) 27 [(0, .ref (((a0, q1, q2)).1))] _ [] rfl rfl rfl rfl ?_
  exact v_vret S ⟨((a0, q1, q2), ((fun _ => 0), (fun _ => 0), (0 : Int32))), rfl, rfl, rfl, hw⟩ dX7_init_27
set_option maxHeartbeats 4000000 in
set_option maxRecDepth 100000 in
theorem c_X7_reach (l : Launch) (G : GG) (a0 : WaysA) (v0 : WaysV) (i0 : Int32) (i1 : Int32) (Q : WaysV → Prop) (hw : wp_X7_reach v0 i0 i1 Q) : Con l G yX7_reach cX7_reach 3 none { frames := 0, cells := 0, slots := 0, locals := 0 } [.ref a0.1, .int i0, .int i1] (wWays G a0 v0.1 v0.2.1 v0.2.2) (PV (fun u : WaysV => wWays G a0 u.1 u.2.1 u.2.2) Q) 0 0 := by
  refine con_of RX7 rfl (by decide) [(0, .ref a0.1), (1, .int i0), (2, .int i1)] rfl (Nat.le_of_ble_eq_true rfl) ?_
  intro p e s m args below meth c S hname
  refine v_aload_n (pc2 := 1) S 0 dX7_reach_0 rfl rfl rfl ?_
  refine v_get (v := .ref a0.2.1) (pc2 := 4) S gf_X7_9 0 rfl rfl dX7_reach_1 rfl ?_
  refine v_iload_n (pc2 := 5) S 1 dX7_reach_4 rfl rfl rfl ?_
  obtain ⟨h1, hw⟩ := hw
  refine v_iald (pc2 := 6) S 1 rfl h1 dX7_reach_5 rfl ?_
  refine v_sipush (v := 6144) (pc2 := 9) S dX7_reach_6 (by decide) rfl ?_
  refine v_icmp_ne (pc2 := 12) (tgt := 49) S dX7_reach_9 (by decide) rfl (fun c2 => ?_) (fun c2 => ?_)
  · have hw := hw.1 c2
    exact v_vret S ⟨v0, rfl, rfl, hw⟩ dX7_reach_49
  · have hw := hw.2 c2
    refine v_aload_n (pc2 := 13) S 0 dX7_reach_12 rfl rfl rfl ?_
    refine v_get (v := .int v0.2.2) (pc2 := 16) S gf_X7_18 0 rfl rfl dX7_reach_13 rfl ?_
    refine v_sipush (v := 6144) (pc2 := 19) S dX7_reach_16 (by decide) rfl ?_
    refine v_icmp_ge (pc2 := 22) (tgt := 49) S dX7_reach_19 (by decide) rfl (fun c3 => ?_) (fun c3 => ?_)
    · have hw := hw.1 c3
      exact v_vret S ⟨v0, rfl, rfl, hw⟩ dX7_reach_49
    · have hw := hw.2 c3
      refine v_aload_n (pc2 := 23) S 0 dX7_reach_22 rfl rfl rfl ?_
      refine v_get (v := .ref a0.2.1) (pc2 := 26) S gf_X7_9 0 rfl rfl dX7_reach_23 rfl ?_
      refine v_iload_n (pc2 := 27) S 1 dX7_reach_26 rfl rfl rfl ?_
      refine v_iload_n (pc2 := 28) S 2 dX7_reach_27 rfl rfl rfl ?_
      obtain ⟨h4, hw⟩ := hw
      obtain ⟨g5, eg5⟩ : ∃ y : Nat → Int32, y = upd v0.1 i0.toNatClampNeg i1 := ⟨_, rfl⟩
      have hw := hw g5 eg5
      refine v_iast (ws2 := wWays G a0 g5 v0.2.1 v0.2.2) (pc2 := 29) S 1 rfl h4 (by rw [eg5] <;> rfl) dX7_reach_28 rfl ?_
      refine v_aload_n (pc2 := 30) S 0 dX7_reach_29 rfl rfl rfl ?_
      refine v_get (v := .ref a0.2.2) (pc2 := 33) S gf_X7_15 0 rfl rfl dX7_reach_30 rfl ?_
      refine v_aload_n (pc2 := 34) S 0 dX7_reach_33 rfl rfl rfl ?_
      refine v_get (v := .int v0.2.2) (pc2 := 37) S gf_X7_18 0 rfl rfl dX7_reach_34 rfl ?_
      refine v_iload_n (pc2 := 38) S 1 dX7_reach_37 rfl rfl rfl ?_
      obtain ⟨h6, hw⟩ := hw
      obtain ⟨g7, eg7⟩ : ∃ y : Nat → Int32, y = upd v0.2.1 v0.2.2.toNatClampNeg i0 := ⟨_, rfl⟩
      have hw := hw g7 eg7
      refine v_iast (ws2 := wWays G a0 g5 g7 v0.2.2) (pc2 := 39) S 2 rfl h6 (by rw [eg7] <;> rfl) dX7_reach_38 rfl ?_
      refine v_aload_n (pc2 := 40) S 0 dX7_reach_39 rfl rfl rfl ?_
      refine v_dup (pc2 := 41) S dX7_reach_40 rfl rfl ?_
      refine v_get (v := .int v0.2.2) (pc2 := 44) S gf_X7_18 0 rfl rfl dX7_reach_41 rfl ?_
      refine v_iconst (v := 1) (pc2 := 45) S dX7_reach_44 (by decide) rfl ?_
      refine v_iadd (pc2 := 46) S dX7_reach_45 rfl ?_
      refine v_nm (fun z8 ez8 => ?_)
      have hw := hw z8 ez8
      refine v_put (ws2 := wWays G a0 g5 g7 z8) (pc2 := 49) S gf_X7_18 pf_X7_2 0 rfl rfl rfl (Nat.le_of_ble_eq_true rfl) rfl dX7_reach_46 rfl ?_
      exact v_vret S ⟨(g5, g7, z8), rfl, rfl, hw⟩ dX7_reach_49
set_option maxHeartbeats 4000000 in
set_option maxRecDepth 100000 in
theorem c_X7_goOnFrom (l : Launch) (G : GG) (a0 : WaysA) (a1 : LoomA) (v0 : WaysV) (v1 : LoomV) (i0 : Int32) (i1 : Int32) (Q : WaysV → Prop) (hw : wp_X7_goOnFrom v0 v1 i0 i1 Q) : Con l G yX7_goOnFrom cX7_goOnFrom 10 none { frames := 4, cells := 0, slots := 0, locals := 91 } [.ref a0.1, .ref a1.1, .int i0, .int i1] (wWays G a0 v0.1 v0.2.1 v0.2.2 ++ wLoom G a1 v1.1 v1.2.1 v1.2.2.1 v1.2.2.2.1 v1.2.2.2.2.1 v1.2.2.2.2.2) (PV (fun u : WaysV => wWays G a0 u.1 u.2.1 u.2.2 ++ wLoom G a1 v1.1 v1.2.1 v1.2.2.1 v1.2.2.2.1 v1.2.2.2.2.1 v1.2.2.2.2.2) Q) 0 0 := by
  refine con_of RX7 rfl (by decide) [(0, .ref a0.1), (1, .ref a1.1), (2, .int i0), (3, .int i1)] rfl (Nat.le_of_ble_eq_true rfl) ?_
  intro p e s m args below meth c S hname
  have L53 : ∀ (x4 : Int32) (x5 : Int32) (x6 : Int32) (x7 : Int32) (x8 : Int32) (kk : Nat) (x9 : Int32) (w0 : WaysV), wp_X7_goOnFrom_L53 v1 x4 x5 x6 x7 x8 Q kk x9 w0 → V p l e { frames := 4, cells := 0, slots := 0, locals := 91 } s m args below meth c G (va_A (wWays G a0 v0.1 v0.2.1 v0.2.2 ++ wLoom G a1 v1.1 v1.2.1 v1.2.2.1 v1.2.2.2.1 v1.2.2.2.2.1 v1.2.2.2.2.2) s.heap.size) 10 0 0 (MQ below (EQ G (wWays G a0 v0.1 v0.2.1 v0.2.2 ++ wLoom G a1 v1.1 v1.2.1 v1.2.2.1 v1.2.2.2.1 v1.2.2.2.2.1 v1.2.2.2.2.2) s.heap.size (PV (fun u : WaysV => wWays G a0 u.1 u.2.1 u.2.2 ++ wLoom G a1 v1.1 v1.2.1 v1.2.2.1 v1.2.2.2.1 v1.2.2.2.2.1 v1.2.2.2.2.2) Q)) args s 0 0 (va_A (wWays G a0 v0.1 v0.2.1 v0.2.2 ++ wLoom G a1 v1.1 v1.2.1 v1.2.2.1 v1.2.2.2.1 v1.2.2.2.2.1 v1.2.2.2.2.2) s.heap.size)) (wWays G a0 w0.1 w0.2.1 w0.2.2 ++ wLoom G a1 v1.1 v1.2.1 v1.2.2.1 v1.2.2.2.1 v1.2.2.2.2.1 v1.2.2.2.2.2) 53 [(0, .ref a0.1), (1, .ref a1.1), (4, .int x4), (5, .int x5), (6, .int x6), (7, .int x7), (8, .int x8), (9, .int x9)] [] := by
    intro x4 x5 x6 x7 x8 kk
    induction kk with
    | zero => intro x9 w0 hw; exact hw.elim
    | succ n ih =>
      intro x9 w0 hw
      refine v_iload (pc2 := 55) S 7 dX7_goOnFrom_53 rfl rfl ?_
      refine v_bipush (v := 10) (pc2 := 57) S dX7_goOnFrom_55 (by decide) rfl ?_
      refine v_icmp_ge (pc2 := 60) (tgt := 148) S dX7_goOnFrom_57 (by decide) rfl (fun c10 => ?_) (fun c10 => ?_)
      · have hw := hw.1 c10
        exact v_vret S ⟨w0, rfl, rfl, hw⟩ dX7_goOnFrom_148
      · have hw := hw.2 c10
        refine v_iload (pc2 := 62) S 5 dX7_goOnFrom_60 rfl rfl ?_
        refine v_iload (pc2 := 64) S 2 dX7_goOnFrom_62 rfl rfl ?_
        refine v_iand (pc2 := 65) S dX7_goOnFrom_64 rfl ?_
        refine v_iload (pc2 := 67) S 7 dX7_goOnFrom_65 rfl rfl ?_
        refine v_callSN (pc2 := 70) (As := [.int (x7 &&& x4), .int x9]) (rest := []) S (c_X8_has l G (x7 &&& x4) x9 _ hw) mf_X8_has u_665 u_335 rfl rfl ⟨rfl, rfl⟩ ⟨Nat.le_of_ble_eq_true rfl, Nat.le_of_ble_eq_true rfl⟩ ⟨Nat.le_of_ble_eq_true rfl, Nat.le_of_ble_eq_true rfl⟩ (Nat.le_of_ble_eq_true rfl) dX7_goOnFrom_67 (frM [] [] _) rfl (pb (fun r11 u12 br11 hw => ?_))
        refine v_to (wWays G a0 w0.1 w0.2.1 w0.2.2 ++ wLoom G a1 v1.1 v1.2.1 v1.2.2.1 v1.2.2.2.1 v1.2.2.2.2.1 v1.2.2.2.2.2) 70 [(0, .ref a0.1), (1, .ref a1.1), (4, .int x4), (5, .int x5), (6, .int x6), (7, .int x7), (8, .int x8), (9, .int x9)] _ [.int r11] rfl rfl rfl rfl ?_
        refine v_if_eq (pc2 := 73) (tgt := 113) S dX7_goOnFrom_70 (by decide) rfl (fun c13 => ?_) (fun c13 => ?_)
        · have hw := hw.1 c13
          refine v_iload (pc2 := 115) S 6 dX7_goOnFrom_113 rfl rfl ?_
          refine v_iload (pc2 := 117) S 7 dX7_goOnFrom_115 rfl rfl ?_
          refine v_callSN (pc2 := 120) (As := [.int x8, .int x9]) (rest := []) S (c_X8_has l G x8 x9 _ hw) mf_X8_has u_665 u_335 rfl rfl ⟨rfl, rfl⟩ ⟨Nat.le_of_ble_eq_true rfl, Nat.le_of_ble_eq_true rfl⟩ ⟨Nat.le_of_ble_eq_true rfl, Nat.le_of_ble_eq_true rfl⟩ (Nat.le_of_ble_eq_true rfl) dX7_goOnFrom_117 (frM [] [] _) rfl (pb (fun r14 u15 br14 hw => ?_))
          refine v_to (wWays G a0 w0.1 w0.2.1 w0.2.2 ++ wLoom G a1 v1.1 v1.2.1 v1.2.2.1 v1.2.2.2.1 v1.2.2.2.2.1 v1.2.2.2.2.2) 120 [(0, .ref a0.1), (1, .ref a1.1), (4, .int x4), (5, .int x5), (6, .int x6), (7, .int x7), (8, .int x8), (9, .int x9)] _ [.int r14] rfl rfl rfl rfl ?_
          refine v_if_eq (pc2 := 123) (tgt := 142) S dX7_goOnFrom_120 (by decide) rfl (fun c16 => ?_) (fun c16 => ?_)
          · have hw := hw.1 c16
            obtain ⟨z17, ez17⟩ : ∃ y : Int32, y = x9 + (1 : Int32) := ⟨_, rfl⟩
            have hw := hw z17 ez17
            refine v_iinc (v := z17) (lv2 := [(0, .ref a0.1), (1, .ref a1.1), (4, .int x4), (5, .int x5), (6, .int x6), (7, .int x7), (8, .int x8), (9, .int z17)]) (pc2 := 145) S 7 dX7_goOnFrom_142 rfl (by rw [ez17]; rfl) (by decide) [1, 2, 3, 4, 5, 6, 7, 0] rfl rfl ?_
            refine v_goto (tgt := 53) S dX7_goOnFrom_145 (by decide) ?_
            exact ih z17 w0 hw
          · have hw := hw.2 c16
            refine v_aload_n (pc2 := 124) S 0 dX7_goOnFrom_123 rfl rfl rfl ?_
            refine v_aload_n (pc2 := 125) S 1 dX7_goOnFrom_124 rfl rfl rfl ?_
            refine v_iload (pc2 := 127) S 2 dX7_goOnFrom_125 rfl rfl ?_
            refine v_iload (pc2 := 129) S 7 dX7_goOnFrom_127 rfl rfl ?_
            refine v_callV (pc2 := 132) (As := [.int x4, .int x9]) (rest := [.ref a0.1]) S (c_X3_afterOpening l G a1 v1 x4 x9 _ hw) mf_X3_afterOpening u_669 u_670 u_671 0 3 rfl rfl rfl rfl ⟨rfl, rfl⟩ ⟨Nat.le_of_ble_eq_true rfl, Nat.le_of_ble_eq_true rfl⟩ ⟨Nat.le_of_ble_eq_true rfl, Nat.le_of_ble_eq_true rfl⟩ (Nat.le_of_ble_eq_true rfl) dX7_goOnFrom_129 (frM (wWays G a0 w0.1 w0.2.1 w0.2.2) (wLoom G a1 v1.1 v1.2.1 v1.2.2.1 v1.2.2.2.1 v1.2.2.2.2.1 v1.2.2.2.2.2) ([])) rfl (pi (fun r18 u19 hw => ?_))
            refine v_to (wWays G a0 w0.1 w0.2.1 w0.2.2 ++ wLoom G a1 v1.1 v1.2.1 v1.2.2.1 v1.2.2.2.1 v1.2.2.2.2.1 v1.2.2.2.2.2) 132 [(0, .ref a0.1), (1, .ref a1.1), (4, .int x4), (5, .int x5), (6, .int x6), (7, .int x7), (8, .int x8), (9, .int x9)] _ [.int r18, .ref a0.1] rfl rfl rfl rfl ?_
            refine v_iload (pc2 := 134) S 3 dX7_goOnFrom_132 rfl rfl ?_
            refine v_callSN (pc2 := 137) (As := [.int r18, .int x5]) (rest := [.ref a0.1]) S (c_X8_spot l G r18 x5 _ hw) mf_X8_spot u_667 u_646 rfl rfl ⟨rfl, rfl⟩ ⟨Nat.le_of_ble_eq_true rfl, Nat.le_of_ble_eq_true rfl⟩ ⟨Nat.le_of_ble_eq_true rfl, Nat.le_of_ble_eq_true rfl⟩ (Nat.le_of_ble_eq_true rfl) dX7_goOnFrom_134 (frM [] [] _) rfl (pi (fun r20 u21 hw => ?_))
            refine v_to (wWays G a0 w0.1 w0.2.1 w0.2.2 ++ wLoom G a1 v1.1 v1.2.1 v1.2.2.1 v1.2.2.2.1 v1.2.2.2.2.1 v1.2.2.2.2.2) 137 [(0, .ref a0.1), (1, .ref a1.1), (4, .int x4), (5, .int x5), (6, .int x6), (7, .int x7), (8, .int x8), (9, .int x9)] _ [.int r20, .ref a0.1] rfl rfl rfl rfl ?_
            refine v_iload (pc2 := 139) S 4 dX7_goOnFrom_137 rfl rfl ?_
            refine v_callV (pc2 := 142) (As := [.int r20, .int x6]) (rest := []) S (c_X7_reach l G a0 w0 r20 x6 _ hw) mf_X7_reach u_655 u_657 u_11 0 7 rfl rfl rfl rfl ⟨rfl, rfl⟩ ⟨Nat.le_of_ble_eq_true rfl, Nat.le_of_ble_eq_true rfl⟩ ⟨Nat.le_of_ble_eq_true rfl, Nat.le_of_ble_eq_true rfl⟩ (Nat.le_of_ble_eq_true rfl) dX7_goOnFrom_139 (frM ([]) (wWays G a0 w0.1 w0.2.1 w0.2.2) (wLoom G a1 v1.1 v1.2.1 v1.2.2.1 v1.2.2.2.1 v1.2.2.2.2.1 v1.2.2.2.2.2)) rfl (pv (fun u23 hw => ?_))
            refine v_to (wWays G a0 u23.1 u23.2.1 u23.2.2 ++ wLoom G a1 v1.1 v1.2.1 v1.2.2.1 v1.2.2.2.1 v1.2.2.2.2.1 v1.2.2.2.2.2) 142 [(0, .ref a0.1), (1, .ref a1.1), (4, .int x4), (5, .int x5), (6, .int x6), (7, .int x7), (8, .int x8), (9, .int x9)] _ [] rfl rfl rfl rfl ?_
            obtain ⟨z24, ez24⟩ : ∃ y : Int32, y = x9 + (1 : Int32) := ⟨_, rfl⟩
            have hw := hw z24 ez24
            refine v_iinc (v := z24) (lv2 := [(0, .ref a0.1), (1, .ref a1.1), (4, .int x4), (5, .int x5), (6, .int x6), (7, .int x7), (8, .int x8), (9, .int z24)]) (pc2 := 145) S 7 dX7_goOnFrom_142 rfl (by rw [ez24]; rfl) (by decide) [1, 2, 3, 4, 5, 6, 7, 0] rfl rfl ?_
            refine v_goto (tgt := 53) S dX7_goOnFrom_145 (by decide) ?_
            exact ih z24 u23 hw
        · have hw := hw.2 c13
          refine v_aload_n (pc2 := 74) S 0 dX7_goOnFrom_73 rfl rfl rfl ?_
          refine v_iload (pc2 := 76) S 2 dX7_goOnFrom_74 rfl rfl ?_
          refine v_aload_n (pc2 := 77) S 1 dX7_goOnFrom_76 rfl rfl rfl ?_
          refine v_iload (pc2 := 79) S 7 dX7_goOnFrom_77 rfl rfl ?_
          refine v_iload (pc2 := 81) S 3 dX7_goOnFrom_79 rfl rfl ?_
          refine v_callV (pc2 := 84) (As := [.int x9, .int x5]) (rest := [.int x4, .ref a0.1]) S (c_X3_otherHall l G a1 v1 x9 x5 _ hw) mf_X3_otherHall u_666 u_495 u_496 0 3 rfl rfl rfl rfl ⟨rfl, rfl⟩ ⟨Nat.le_of_ble_eq_true rfl, Nat.le_of_ble_eq_true rfl⟩ ⟨Nat.le_of_ble_eq_true rfl, Nat.le_of_ble_eq_true rfl⟩ (Nat.le_of_ble_eq_true rfl) dX7_goOnFrom_81 (frM (wWays G a0 w0.1 w0.2.1 w0.2.2) (wLoom G a1 v1.1 v1.2.1 v1.2.2.1 v1.2.2.2.1 v1.2.2.2.2.1 v1.2.2.2.2.2) ([])) rfl (pi (fun r25 u26 hw => ?_))
          refine v_to (wWays G a0 w0.1 w0.2.1 w0.2.2 ++ wLoom G a1 v1.1 v1.2.1 v1.2.2.1 v1.2.2.2.1 v1.2.2.2.2.1 v1.2.2.2.2.2) 84 [(0, .ref a0.1), (1, .ref a1.1), (4, .int x4), (5, .int x5), (6, .int x6), (7, .int x7), (8, .int x8), (9, .int x9)] _ [.int r25, .int x4, .ref a0.1] rfl rfl rfl rfl ?_
          refine v_callSN (pc2 := 87) (As := [.int x4, .int r25]) (rest := [.ref a0.1]) S (c_X8_spot l G x4 r25 _ hw) mf_X8_spot u_667 u_646 rfl rfl ⟨rfl, rfl⟩ ⟨Nat.le_of_ble_eq_true rfl, Nat.le_of_ble_eq_true rfl⟩ ⟨Nat.le_of_ble_eq_true rfl, Nat.le_of_ble_eq_true rfl⟩ (Nat.le_of_ble_eq_true rfl) dX7_goOnFrom_84 (frM [] [] _) rfl (pi (fun r27 u28 hw => ?_))
          refine v_to (wWays G a0 w0.1 w0.2.1 w0.2.2 ++ wLoom G a1 v1.1 v1.2.1 v1.2.2.1 v1.2.2.2.1 v1.2.2.2.2.1 v1.2.2.2.2.2) 87 [(0, .ref a0.1), (1, .ref a1.1), (4, .int x4), (5, .int x5), (6, .int x6), (7, .int x7), (8, .int x8), (9, .int x9)] _ [.int r27, .ref a0.1] rfl rfl rfl rfl ?_
          refine v_iload (pc2 := 89) S 4 dX7_goOnFrom_87 rfl rfl ?_
          refine v_callV (pc2 := 92) (As := [.int r27, .int x6]) (rest := []) S (c_X7_reach l G a0 w0 r27 x6 _ hw) mf_X7_reach u_655 u_657 u_11 0 7 rfl rfl rfl rfl ⟨rfl, rfl⟩ ⟨Nat.le_of_ble_eq_true rfl, Nat.le_of_ble_eq_true rfl⟩ ⟨Nat.le_of_ble_eq_true rfl, Nat.le_of_ble_eq_true rfl⟩ (Nat.le_of_ble_eq_true rfl) dX7_goOnFrom_89 (frM ([]) (wWays G a0 w0.1 w0.2.1 w0.2.2) (wLoom G a1 v1.1 v1.2.1 v1.2.2.1 v1.2.2.2.1 v1.2.2.2.2.1 v1.2.2.2.2.2)) rfl (pv (fun u30 hw => ?_))
          refine v_to (wWays G a0 u30.1 u30.2.1 u30.2.2 ++ wLoom G a1 v1.1 v1.2.1 v1.2.2.1 v1.2.2.2.1 v1.2.2.2.2.1 v1.2.2.2.2.2) 92 [(0, .ref a0.1), (1, .ref a1.1), (4, .int x4), (5, .int x5), (6, .int x6), (7, .int x7), (8, .int x8), (9, .int x9)] _ [] rfl rfl rfl rfl ?_
          refine v_aload_n (pc2 := 93) S 0 dX7_goOnFrom_92 rfl rfl rfl ?_
          refine v_iload (pc2 := 95) S 2 dX7_goOnFrom_93 rfl rfl ?_
          refine v_iload (pc2 := 97) S 7 dX7_goOnFrom_95 rfl rfl ?_
          refine v_callSN (pc2 := 100) (As := [.int x4, .int x9]) (rest := [.ref a0.1]) S (c_X8_without l G x4 x9 _ hw) mf_X8_without u_668 u_373 rfl rfl ⟨rfl, rfl⟩ ⟨Nat.le_of_ble_eq_true rfl, Nat.le_of_ble_eq_true rfl⟩ ⟨Nat.le_of_ble_eq_true rfl, Nat.le_of_ble_eq_true rfl⟩ (Nat.le_of_ble_eq_true rfl) dX7_goOnFrom_97 (frM [] [] _) rfl (pi (fun r31 u32 hw => ?_))
          refine v_to (wWays G a0 u30.1 u30.2.1 u30.2.2 ++ wLoom G a1 v1.1 v1.2.1 v1.2.2.1 v1.2.2.2.1 v1.2.2.2.2.1 v1.2.2.2.2.2) 100 [(0, .ref a0.1), (1, .ref a1.1), (4, .int x4), (5, .int x5), (6, .int x6), (7, .int x7), (8, .int x8), (9, .int x9)] _ [.int r31, .ref a0.1] rfl rfl rfl rfl ?_
          refine v_iload (pc2 := 102) S 3 dX7_goOnFrom_100 rfl rfl ?_
          refine v_callSN (pc2 := 105) (As := [.int r31, .int x5]) (rest := [.ref a0.1]) S (c_X8_spot l G r31 x5 _ hw) mf_X8_spot u_667 u_646 rfl rfl ⟨rfl, rfl⟩ ⟨Nat.le_of_ble_eq_true rfl, Nat.le_of_ble_eq_true rfl⟩ ⟨Nat.le_of_ble_eq_true rfl, Nat.le_of_ble_eq_true rfl⟩ (Nat.le_of_ble_eq_true rfl) dX7_goOnFrom_102 (frM [] [] _) rfl (pi (fun r33 u34 hw => ?_))
          refine v_to (wWays G a0 u30.1 u30.2.1 u30.2.2 ++ wLoom G a1 v1.1 v1.2.1 v1.2.2.1 v1.2.2.2.1 v1.2.2.2.2.1 v1.2.2.2.2.2) 105 [(0, .ref a0.1), (1, .ref a1.1), (4, .int x4), (5, .int x5), (6, .int x6), (7, .int x7), (8, .int x8), (9, .int x9)] _ [.int r33, .ref a0.1] rfl rfl rfl rfl ?_
          refine v_iload (pc2 := 107) S 4 dX7_goOnFrom_105 rfl rfl ?_
          refine v_callV (pc2 := 110) (As := [.int r33, .int x6]) (rest := []) S (c_X7_reach l G a0 u30 r33 x6 _ hw) mf_X7_reach u_655 u_657 u_11 0 7 rfl rfl rfl rfl ⟨rfl, rfl⟩ ⟨Nat.le_of_ble_eq_true rfl, Nat.le_of_ble_eq_true rfl⟩ ⟨Nat.le_of_ble_eq_true rfl, Nat.le_of_ble_eq_true rfl⟩ (Nat.le_of_ble_eq_true rfl) dX7_goOnFrom_107 (frM ([]) (wWays G a0 u30.1 u30.2.1 u30.2.2) (wLoom G a1 v1.1 v1.2.1 v1.2.2.1 v1.2.2.2.1 v1.2.2.2.2.1 v1.2.2.2.2.2)) rfl (pv (fun u36 hw => ?_))
          refine v_to (wWays G a0 u36.1 u36.2.1 u36.2.2 ++ wLoom G a1 v1.1 v1.2.1 v1.2.2.1 v1.2.2.2.1 v1.2.2.2.2.1 v1.2.2.2.2.2) 110 [(0, .ref a0.1), (1, .ref a1.1), (4, .int x4), (5, .int x5), (6, .int x6), (7, .int x7), (8, .int x8), (9, .int x9)] _ [] rfl rfl rfl rfl ?_
          refine v_goto (tgt := 142) S dX7_goOnFrom_110 (by decide) ?_
          obtain ⟨z37, ez37⟩ : ∃ y : Int32, y = x9 + (1 : Int32) := ⟨_, rfl⟩
          have hw := hw z37 ez37
          refine v_iinc (v := z37) (lv2 := [(0, .ref a0.1), (1, .ref a1.1), (4, .int x4), (5, .int x5), (6, .int x6), (7, .int x7), (8, .int x8), (9, .int z37)]) (pc2 := 145) S 7 dX7_goOnFrom_142 rfl (by rw [ez37]; rfl) (by decide) [1, 2, 3, 4, 5, 6, 7, 0] rfl rfl ?_
          refine v_goto (tgt := 53) S dX7_goOnFrom_145 (by decide) ?_
          exact ih z37 u36 hw
  refine v_iload_n (pc2 := 1) S 2 dX7_goOnFrom_0 rfl rfl rfl ?_
  refine v_bipush (v := 6) (pc2 := 3) S dX7_goOnFrom_1 (by decide) rfl ?_
  refine v_idiv (pc2 := 4) S (by decide) dX7_goOnFrom_3 rfl ?_
  refine v_nm (fun z1 ez1 => ?_)
  have hw := hw z1 ez1
  refine v_istore (lv2 := [(0, .ref a0.1), (1, .ref a1.1), (2, .int i0), (3, .int i1), (4, .int z1)]) (pc2 := 6) S dX7_goOnFrom_4 (by decide) [1, 2, 3, 4, 0] rfl rfl ?_
  refine v_iload_n (pc2 := 7) S 2 dX7_goOnFrom_6 rfl rfl rfl ?_
  refine v_bipush (v := 6) (pc2 := 9) S dX7_goOnFrom_7 (by decide) rfl ?_
  refine v_irem (pc2 := 10) S (by decide) dX7_goOnFrom_9 rfl ?_
  refine v_nm (fun z2 ez2 => ?_)
  have hw := hw z2 ez2
  refine v_istore (lv2 := [(0, .ref a0.1), (1, .ref a1.1), (2, .int i0), (3, .int i1), (4, .int z1), (5, .int z2)]) (pc2 := 12) S dX7_goOnFrom_10 (by decide) [1, 2, 3, 4, 5, 0] rfl rfl ?_
  refine v_aload_n (pc2 := 13) S 0 dX7_goOnFrom_12 rfl rfl rfl ?_
  refine v_get (v := .ref a0.2.1) (pc2 := 16) S gf_X7_9 0 rfl rfl dX7_goOnFrom_13 rfl ?_
  refine v_iload_n (pc2 := 17) S 2 dX7_goOnFrom_16 rfl rfl rfl ?_
  obtain ⟨h3, hw⟩ := hw
  refine v_iald (pc2 := 18) S 1 rfl h3 dX7_goOnFrom_17 rfl ?_
  refine v_iconst (v := 1) (pc2 := 19) S dX7_goOnFrom_18 (by decide) rfl ?_
  refine v_iadd (pc2 := 20) S dX7_goOnFrom_19 rfl ?_
  refine v_nm (fun z4 ez4 => ?_)
  have hw := hw z4 ez4
  refine v_istore (lv2 := [(0, .ref a0.1), (1, .ref a1.1), (2, .int i0), (3, .int i1), (4, .int z1), (5, .int z2), (6, .int z4)]) (pc2 := 22) S dX7_goOnFrom_20 (by decide) [1, 2, 3, 4, 5, 6, 0] rfl rfl ?_
  refine v_aload_n (pc2 := 23) S 1 dX7_goOnFrom_22 rfl rfl rfl ?_
  refine v_iload (pc2 := 25) S 5 dX7_goOnFrom_23 rfl rfl ?_
  refine v_callV (pc2 := 28) (As := [.int z2]) (rest := []) S (c_X3_doorsOf l G a1 v1 z2 _ hw) mf_X3_doorsOf u_663 u_471 u_472 0 3 rfl rfl rfl rfl ⟨rfl, rfl⟩ ⟨Nat.le_of_ble_eq_true rfl, Nat.le_of_ble_eq_true rfl⟩ ⟨Nat.le_of_ble_eq_true rfl, Nat.le_of_ble_eq_true rfl⟩ (Nat.le_of_ble_eq_true rfl) dX7_goOnFrom_25 (frM (wWays G a0 v0.1 v0.2.1 v0.2.2) (wLoom G a1 v1.1 v1.2.1 v1.2.2.1 v1.2.2.2.1 v1.2.2.2.2.1 v1.2.2.2.2.2) ([])) rfl (pi (fun r5 u6 hw => ?_))
  refine v_to (wWays G a0 v0.1 v0.2.1 v0.2.2 ++ wLoom G a1 v1.1 v1.2.1 v1.2.2.1 v1.2.2.2.1 v1.2.2.2.2.1 v1.2.2.2.2.2) 28 [(0, .ref a0.1), (1, .ref a1.1), (2, .int i0), (3, .int i1), (4, .int z1), (5, .int z2), (6, .int z4)] _ [.int r5] rfl rfl rfl rfl ?_
  refine v_istore (lv2 := [(0, .ref a0.1), (1, .ref a1.1), (2, .int i0), (3, .int i1), (4, .int z1), (5, .int z2), (6, .int z4), (7, .int r5)]) (pc2 := 30) S dX7_goOnFrom_28 (by decide) [1, 2, 3, 4, 5, 6, 7, 0] rfl rfl ?_
  refine v_iload (pc2 := 32) S 7 dX7_goOnFrom_30 rfl rfl ?_
  refine v_iload_n (pc2 := 33) S 3 dX7_goOnFrom_32 rfl rfl rfl ?_
  refine v_iand (pc2 := 34) S dX7_goOnFrom_33 rfl ?_
  refine v_iload (pc2 := 36) S 4 dX7_goOnFrom_34 rfl rfl ?_
  refine v_iconst (v := -1) (pc2 := 37) S dX7_goOnFrom_36 (by decide) rfl ?_
  refine v_ixor (pc2 := 38) S dX7_goOnFrom_37 rfl ?_
  refine v_iand (pc2 := 39) S dX7_goOnFrom_38 rfl ?_
  refine v_aload_n (pc2 := 40) S 1 dX7_goOnFrom_39 rfl rfl rfl ?_
  refine v_iload (pc2 := 42) S 4 dX7_goOnFrom_40 rfl rfl ?_
  refine v_callV (pc2 := 45) (As := [.int z1]) (rest := [.int ((r5 &&& i1) &&& (z1 ^^^ (-1 : Int32)))]) S (c_X3_heldBy l G a1 v1 z1 _ hw) mf_X3_heldBy u_664 u_338 u_339 0 3 rfl rfl rfl rfl ⟨rfl, rfl⟩ ⟨Nat.le_of_ble_eq_true rfl, Nat.le_of_ble_eq_true rfl⟩ ⟨Nat.le_of_ble_eq_true rfl, Nat.le_of_ble_eq_true rfl⟩ (Nat.le_of_ble_eq_true rfl) dX7_goOnFrom_42 (frM (wWays G a0 v0.1 v0.2.1 v0.2.2) (wLoom G a1 v1.1 v1.2.1 v1.2.2.1 v1.2.2.2.1 v1.2.2.2.2.1 v1.2.2.2.2.2) ([])) rfl (pi (fun r7 u8 hw => ?_))
  refine v_to (wWays G a0 v0.1 v0.2.1 v0.2.2 ++ wLoom G a1 v1.1 v1.2.1 v1.2.2.1 v1.2.2.2.1 v1.2.2.2.2.1 v1.2.2.2.2.2) 45 [(0, .ref a0.1), (1, .ref a1.1), (2, .int i0), (3, .int i1), (4, .int z1), (5, .int z2), (6, .int z4), (7, .int r5)] _ [.int r7, .int ((r5 &&& i1) &&& (z1 ^^^ (-1 : Int32)))] rfl rfl rfl rfl ?_
  refine v_iconst (v := -1) (pc2 := 46) S dX7_goOnFrom_45 (by decide) rfl ?_
  refine v_ixor (pc2 := 47) S dX7_goOnFrom_46 rfl ?_
  refine v_iand (pc2 := 48) S dX7_goOnFrom_47 rfl ?_
  refine v_nm (fun z9 ez9 => ?_)
  have hw := hw z9 ez9
  refine v_istore (lv2 := [(0, .ref a0.1), (1, .ref a1.1), (2, .int i0), (3, .int i1), (4, .int z1), (5, .int z2), (6, .int z4), (7, .int r5), (8, .int z9)]) (pc2 := 50) S dX7_goOnFrom_48 (by decide) [1, 2, 3, 4, 5, 6, 7, 8, 0] rfl rfl ?_
  refine v_iconst (v := 0) (pc2 := 51) S dX7_goOnFrom_50 (by decide) rfl ?_
  refine v_istore (lv2 := [(0, .ref a0.1), (1, .ref a1.1), (2, .int i0), (3, .int i1), (4, .int z1), (5, .int z2), (6, .int z4), (7, .int r5), (8, .int z9), (9, .int (0 : Int32))]) (pc2 := 53) S dX7_goOnFrom_51 (by decide) [1, 2, 3, 4, 5, 6, 7, 8, 9, 0] rfl rfl ?_
  refine v_lv [(0, .ref a0.1), (1, .ref a1.1), (4, .int z1), (5, .int z2), (6, .int z4), (7, .int r5), (8, .int z9), (9, .int (0 : Int32))] [0, 1, 4, 5, 6, 7, 8, 9] rfl ?_
  obtain ⟨kk, hw⟩ := hw
  exact L53 z1 z2 z4 r5 z9 kk (0 : Int32) v0 hw
set_option maxHeartbeats 4000000 in
set_option maxRecDepth 100000 in
theorem c_X7_fromNowOn (l : Launch) (G : GG) (a0 : WaysA) (a1 : LoomA) (v0 : WaysV) (v1 : LoomV) (i0 : Int32) (i1 : Int32) (i2 : Int32) (Q : Int32 → WaysV → Prop) (hw : wp_X7_fromNowOn v0 v1 i0 i1 i2 Q) : Con l G yX7_fromNowOn cX7_fromNowOn 7 (some .int) { frames := 5, cells := 0, slots := 0, locals := 120 } [.ref a0.1, .ref a1.1, .int i0, .int i1, .int i2] (wWays G a0 v0.1 v0.2.1 v0.2.2 ++ wLoom G a1 v1.1 v1.2.1 v1.2.2.1 v1.2.2.2.1 v1.2.2.2.2.1 v1.2.2.2.2.2) (PI (fun u : WaysV => wWays G a0 u.1 u.2.1 u.2.2 ++ wLoom G a1 v1.1 v1.2.1 v1.2.2.1 v1.2.2.2.1 v1.2.2.2.2.1 v1.2.2.2.2.2) Q) 0 0 := by
  refine con_of RX7 rfl (by decide) [(0, .ref a0.1), (1, .ref a1.1), (2, .int i0), (3, .int i1), (4, .int i2)] rfl (Nat.le_of_ble_eq_true rfl) ?_
  intro p e s m args below meth c S hname
  have L24 : ∀ (x3 : Int32) (x4 : Int32) (kk : Nat) (x5 : Int32) (w0 : WaysV), wp_X7_fromNowOn_L24 v1 x3 x4 Q kk x5 w0 → V p l e { frames := 5, cells := 0, slots := 0, locals := 120 } s m args below meth c G (va_A (wWays G a0 v0.1 v0.2.1 v0.2.2 ++ wLoom G a1 v1.1 v1.2.1 v1.2.2.1 v1.2.2.2.1 v1.2.2.2.2.1 v1.2.2.2.2.2) s.heap.size) 7 0 0 (MQ below (EQ G (wWays G a0 v0.1 v0.2.1 v0.2.2 ++ wLoom G a1 v1.1 v1.2.1 v1.2.2.1 v1.2.2.2.1 v1.2.2.2.2.1 v1.2.2.2.2.2) s.heap.size (PI (fun u : WaysV => wWays G a0 u.1 u.2.1 u.2.2 ++ wLoom G a1 v1.1 v1.2.1 v1.2.2.1 v1.2.2.2.1 v1.2.2.2.2.1 v1.2.2.2.2.2) Q)) args s 0 0 (va_A (wWays G a0 v0.1 v0.2.1 v0.2.2 ++ wLoom G a1 v1.1 v1.2.1 v1.2.2.1 v1.2.2.2.1 v1.2.2.2.2.1 v1.2.2.2.2.2) s.heap.size)) (wWays G a0 w0.1 w0.2.1 w0.2.2 ++ wLoom G a1 v1.1 v1.2.1 v1.2.2.1 v1.2.2.2.1 v1.2.2.2.2.1 v1.2.2.2.2.2) 24 [(0, .ref a0.1), (1, .ref a1.1), (3, .int x3), (4, .int x4), (5, .int x5)] [] := by
    intro x3 x4 kk
    induction kk with
    | zero => intro x5 w0 hw; exact hw.elim
    | succ n ih =>
      intro x5 w0 hw
      refine v_iload (pc2 := 26) S 4 dX7_fromNowOn_24 rfl rfl ?_
      refine v_aload_n (pc2 := 27) S 0 dX7_fromNowOn_26 rfl rfl rfl ?_
      refine v_get (v := .int w0.2.2) (pc2 := 30) S gf_X7_18 0 rfl rfl dX7_fromNowOn_27 rfl ?_
      refine v_icmp_ge (pc2 := 33) (tgt := 82) S dX7_fromNowOn_30 (by decide) rfl (fun c5 => ?_) (fun c5 => ?_)
      · have hw := hw.1 c5
        refine v_bipush (v := -4) (pc2 := 84) S dX7_fromNowOn_82 (by decide) rfl ?_
        exact v_iret S ⟨(-4 : Int32), w0, rfl, rfl, hw⟩ dX7_fromNowOn_84
      · have hw := hw.2 c5
        refine v_iload (pc2 := 35) S 4 dX7_fromNowOn_33 rfl rfl ?_
        refine v_sipush (v := 6144) (pc2 := 38) S dX7_fromNowOn_35 (by decide) rfl ?_
        refine v_icmp_ge (pc2 := 41) (tgt := 82) S dX7_fromNowOn_38 (by decide) rfl (fun c6 => ?_) (fun c6 => ?_)
        · have hw := hw.1 c6
          refine v_bipush (v := -4) (pc2 := 84) S dX7_fromNowOn_82 (by decide) rfl ?_
          exact v_iret S ⟨(-4 : Int32), w0, rfl, rfl, hw⟩ dX7_fromNowOn_84
        · have hw := hw.2 c6
          refine v_aload_n (pc2 := 42) S 0 dX7_fromNowOn_41 rfl rfl rfl ?_
          refine v_get (v := .ref a0.2.2) (pc2 := 45) S gf_X7_15 0 rfl rfl dX7_fromNowOn_42 rfl ?_
          refine v_iload (pc2 := 47) S 4 dX7_fromNowOn_45 rfl rfl ?_
          obtain ⟨h7, hw⟩ := hw
          refine v_iald (pc2 := 48) S 2 rfl h7 dX7_fromNowOn_47 rfl ?_
          refine v_nm (fun z8 ez8 => ?_)
          have hw := hw z8 ez8
          refine v_istore (lv2 := [(0, .ref a0.1), (1, .ref a1.1), (3, .int x3), (4, .int x4), (5, .int x5), (6, .int z8)]) (pc2 := 50) S dX7_fromNowOn_48 (by decide) [1, 2, 3, 4, 5, 0] rfl rfl ?_
          refine v_iload (pc2 := 52) S 5 dX7_fromNowOn_50 rfl rfl ?_
          refine v_bipush (v := 6) (pc2 := 54) S dX7_fromNowOn_52 (by decide) rfl ?_
          refine v_irem (pc2 := 55) S (by decide) dX7_fromNowOn_54 rfl ?_
          refine v_iload (pc2 := 57) S 3 dX7_fromNowOn_55 rfl rfl ?_
          refine v_icmp_ne (pc2 := 60) (tgt := 68) S dX7_fromNowOn_57 (by decide) rfl (fun c9 => ?_) (fun c9 => ?_)
          · have hw := hw.1 c9
            refine v_aload_n (pc2 := 69) S 0 dX7_fromNowOn_68 rfl rfl rfl ?_
            refine v_aload_n (pc2 := 70) S 1 dX7_fromNowOn_69 rfl rfl rfl ?_
            refine v_iload (pc2 := 72) S 5 dX7_fromNowOn_70 rfl rfl ?_
            refine v_iload_n (pc2 := 73) S 2 dX7_fromNowOn_72 rfl rfl rfl ?_
            refine v_callV (pc2 := 76) (As := [.ref a1.1, .int z8, .int x3]) (rest := []) S (c_X7_goOnFrom l G a0 a1 w0 v1 z8 x3 _ hw) mf_X7_goOnFrom u_659 u_661 u_12 0 7 rfl rfl rfl rfl ⟨rfl, rfl⟩ ⟨Nat.le_of_ble_eq_true rfl, Nat.le_of_ble_eq_true rfl⟩ ⟨Nat.le_of_ble_eq_true rfl, Nat.le_of_ble_eq_true rfl⟩ (Nat.le_of_ble_eq_true rfl) dX7_fromNowOn_73 (frW _) rfl (pv (fun u11 hw => ?_))
            refine v_to (wWays G a0 u11.1 u11.2.1 u11.2.2 ++ wLoom G a1 v1.1 v1.2.1 v1.2.2.1 v1.2.2.2.1 v1.2.2.2.2.1 v1.2.2.2.2.2) 76 [(0, .ref a0.1), (1, .ref a1.1), (3, .int x3), (4, .int x4), (5, .int x5), (6, .int z8)] _ [] rfl rfl rfl rfl ?_
            obtain ⟨z12, ez12⟩ : ∃ y : Int32, y = x5 + (1 : Int32) := ⟨_, rfl⟩
            have hw := hw z12 ez12
            refine v_iinc (v := z12) (lv2 := [(0, .ref a0.1), (1, .ref a1.1), (3, .int x3), (4, .int x4), (5, .int z12), (6, .int z8)]) (pc2 := 79) S 4 dX7_fromNowOn_76 rfl (by rw [ez12]; rfl) (by decide) [1, 2, 3, 4, 0, 5] rfl rfl ?_
            refine v_goto (tgt := 24) S dX7_fromNowOn_79 (by decide) ?_
            refine v_lv [(0, .ref a0.1), (1, .ref a1.1), (3, .int x3), (4, .int x4), (5, .int z12)] [0, 1, 2, 3, 4] rfl ?_
            exact ih z12 u11 hw
          · have hw := hw.2 c9
            refine v_aload_n (pc2 := 61) S 0 dX7_fromNowOn_60 rfl rfl rfl ?_
            refine v_get (v := .ref a0.2.1) (pc2 := 64) S gf_X7_9 0 rfl rfl dX7_fromNowOn_61 rfl ?_
            refine v_iload (pc2 := 66) S 5 dX7_fromNowOn_64 rfl rfl ?_
            obtain ⟨h13, hw⟩ := hw
            refine v_iald (pc2 := 67) S 1 rfl h13 dX7_fromNowOn_66 rfl ?_
            exact v_iret S ⟨w0.1 z8.toNatClampNeg, w0, rfl, rfl, hw⟩ dX7_fromNowOn_67
  refine v_aload_n (pc2 := 1) S 0 dX7_fromNowOn_0 rfl rfl rfl ?_
  refine v_get (v := .ref a0.2.1) (pc2 := 4) S gf_X7_9 0 rfl rfl dX7_fromNowOn_1 rfl ?_
  refine v_sipush (v := 6144) (pc2 := 7) S dX7_fromNowOn_4 (by decide) rfl ?_
  refine v_callS (pc2 := 10) (As := [.ref a0.2.1, .int (6144 : Int32)]) (rest := []) S (c_J7_fill_53178 l G 6144 a0.2.1 v0.1 (6144 : Int32) _ hw) mf_J7_fill_53178 u_652 u_653 rfl rfl ⟨rfl, rfl⟩ ⟨Nat.le_of_ble_eq_true rfl, Nat.le_of_ble_eq_true rfl⟩ ⟨Nat.le_of_ble_eq_true rfl, Nat.le_of_ble_eq_true rfl⟩ (Nat.le_of_ble_eq_true rfl) dX7_fromNowOn_7 (frM ([(a0.1, .inr (7, [.ref a0.2.1, .ref a0.2.2, .int v0.2.2]))]) ([(a0.2.1, .inl (G.2.1, 6144, .inl v0.1))]) (([(a0.2.2, .inl (G.2.1, 6144, .inl v0.2.1))] : va_W) ++ (wLoom G a1 v1.1 v1.2.1 v1.2.2.1 v1.2.2.2.1 v1.2.2.2.2.1 v1.2.2.2.2.2))) rfl (pv (fun u2 hw => ?_))
  refine v_to (wWays G a0 u2 v0.2.1 v0.2.2 ++ wLoom G a1 v1.1 v1.2.1 v1.2.2.1 v1.2.2.2.1 v1.2.2.2.2.1 v1.2.2.2.2.2) 10 [(0, .ref a0.1), (1, .ref a1.1), (2, .int i0), (3, .int i1), (4, .int i2)] _ [] rfl rfl rfl rfl ?_
  refine v_aload_n (pc2 := 11) S 0 dX7_fromNowOn_10 rfl rfl rfl ?_
  refine v_iconst (v := 0) (pc2 := 12) S dX7_fromNowOn_11 (by decide) rfl ?_
  refine v_put (ws2 := wWays G a0 u2 v0.2.1 (0 : Int32) ++ wLoom G a1 v1.1 v1.2.1 v1.2.2.1 v1.2.2.2.1 v1.2.2.2.2.1 v1.2.2.2.2.2) (pc2 := 15) S gf_X7_18 pf_X7_2 0 rfl rfl rfl (Nat.le_of_ble_eq_true rfl) rfl dX7_fromNowOn_12 rfl ?_
  refine v_aload_n (pc2 := 16) S 0 dX7_fromNowOn_15 rfl rfl rfl ?_
  refine v_iload_n (pc2 := 17) S 2 dX7_fromNowOn_16 rfl rfl rfl ?_
  refine v_iconst (v := 0) (pc2 := 18) S dX7_fromNowOn_17 (by decide) rfl ?_
  refine v_callV (pc2 := 21) (As := [.int i0, .int (0 : Int32)]) (rest := []) S (c_X7_reach l G a0 (u2, v0.2.1, (0 : Int32)) i0 (0 : Int32) _ hw) mf_X7_reach u_655 u_657 u_11 0 7 rfl rfl rfl rfl ⟨rfl, rfl⟩ ⟨Nat.le_of_ble_eq_true rfl, Nat.le_of_ble_eq_true rfl⟩ ⟨Nat.le_of_ble_eq_true rfl, Nat.le_of_ble_eq_true rfl⟩ (Nat.le_of_ble_eq_true rfl) dX7_fromNowOn_18 (frM ([]) (wWays G a0 u2 v0.2.1 (0 : Int32)) (wLoom G a1 v1.1 v1.2.1 v1.2.2.1 v1.2.2.2.1 v1.2.2.2.2.1 v1.2.2.2.2.2)) rfl (pv (fun u4 hw => ?_))
  refine v_to (wWays G a0 u4.1 u4.2.1 u4.2.2 ++ wLoom G a1 v1.1 v1.2.1 v1.2.2.1 v1.2.2.2.1 v1.2.2.2.2.1 v1.2.2.2.2.2) 21 [(0, .ref a0.1), (1, .ref a1.1), (2, .int i0), (3, .int i1), (4, .int i2)] _ [] rfl rfl rfl rfl ?_
  refine v_iconst (v := 0) (pc2 := 22) S dX7_fromNowOn_21 (by decide) rfl ?_
  refine v_istore (lv2 := [(0, .ref a0.1), (1, .ref a1.1), (2, .int i0), (3, .int i1), (4, .int i2), (5, .int (0 : Int32))]) (pc2 := 24) S dX7_fromNowOn_22 (by decide) [1, 2, 3, 4, 5, 0] rfl rfl ?_
  refine v_lv [(0, .ref a0.1), (1, .ref a1.1), (3, .int i1), (4, .int i2), (5, .int (0 : Int32))] [0, 1, 3, 4, 5] rfl ?_
  obtain ⟨kk, hw⟩ := hw
  exact L24 i1 i2 kk (0 : Int32) u4 hw
set_option maxHeartbeats 4000000 in
set_option maxRecDepth 100000 in
theorem c_X7_lineUpSets (l : Launch) (G : GG) (a0 : WaysA) (a1 : LoomA) (v0 : WaysV) (v1 : LoomV) (i0 : Int32) (Q : WaysV → Prop) (hw : wp_X7_lineUpSets v0 v1 i0 Q) : Con l G yX7_lineUpSets cX7_lineUpSets 5 none { frames := 2, cells := 0, slots := 0, locals := 44 } [.ref a0.1, .ref a1.1, .int i0] (wWays G a0 v0.1 v0.2.1 v0.2.2 ++ wLoom G a1 v1.1 v1.2.1 v1.2.2.1 v1.2.2.2.1 v1.2.2.2.2.1 v1.2.2.2.2.2) (PV (fun u : WaysV => wWays G a0 u.1 u.2.1 u.2.2 ++ wLoom G a1 v1.1 v1.2.1 v1.2.2.1 v1.2.2.2.1 v1.2.2.2.2.1 v1.2.2.2.2.2) Q) 0 0 := by
  refine con_of RX7 rfl (by decide) [(0, .ref a0.1), (1, .ref a1.1), (2, .int i0)] rfl (Nat.le_of_ble_eq_true rfl) ?_
  intro p e s m args below meth c S hname
  have B37 : ∀ (x2 : Int32) (x3 : Int32) (t0 : Int32) (w0 : WaysV) (K7 : Int32 → WaysV → Prop) (hK7 : ∀ (y0 : Int32) (y1 : WaysV), K7 y0 y1 → V p l e { frames := 2, cells := 0, slots := 0, locals := 44 } s m args below meth c G (va_A (wWays G a0 v0.1 v0.2.1 v0.2.2 ++ wLoom G a1 v1.1 v1.2.1 v1.2.2.1 v1.2.2.2.1 v1.2.2.2.2.1 v1.2.2.2.2.2) s.heap.size) 5 0 0 (MQ below (EQ G (wWays G a0 v0.1 v0.2.1 v0.2.2 ++ wLoom G a1 v1.1 v1.2.1 v1.2.2.1 v1.2.2.2.1 v1.2.2.2.2.1 v1.2.2.2.2.2) s.heap.size (PV (fun u : WaysV => wWays G a0 u.1 u.2.1 u.2.2 ++ wLoom G a1 v1.1 v1.2.1 v1.2.2.1 v1.2.2.2.1 v1.2.2.2.2.1 v1.2.2.2.2.2) Q)) args s 0 0 (va_A (wWays G a0 v0.1 v0.2.1 v0.2.2 ++ wLoom G a1 v1.1 v1.2.1 v1.2.2.1 v1.2.2.2.1 v1.2.2.2.2.1 v1.2.2.2.2.2) s.heap.size)) (wWays G a0 y1.1 y1.2.1 y1.2.2 ++ wLoom G a1 v1.1 v1.2.1 v1.2.2.1 v1.2.2.2.1 v1.2.2.2.2.1 v1.2.2.2.2.2) 7 [(0, .ref a0.1), (1, .ref a1.1), (2, .int x2), (3, .int y0)] []), wp_X7_lineUpSets_B37 v1 x2 x3 t0 w0 Q K7 → V p l e { frames := 2, cells := 0, slots := 0, locals := 44 } s m args below meth c G (va_A (wWays G a0 v0.1 v0.2.1 v0.2.2 ++ wLoom G a1 v1.1 v1.2.1 v1.2.2.1 v1.2.2.2.1 v1.2.2.2.2.1 v1.2.2.2.2.2) s.heap.size) 5 0 0 (MQ below (EQ G (wWays G a0 v0.1 v0.2.1 v0.2.2 ++ wLoom G a1 v1.1 v1.2.1 v1.2.2.1 v1.2.2.2.1 v1.2.2.2.2.1 v1.2.2.2.2.2) s.heap.size (PV (fun u : WaysV => wWays G a0 u.1 u.2.1 u.2.2 ++ wLoom G a1 v1.1 v1.2.1 v1.2.2.1 v1.2.2.2.1 v1.2.2.2.2.1 v1.2.2.2.2.2) Q)) args s 0 0 (va_A (wWays G a0 v0.1 v0.2.1 v0.2.2 ++ wLoom G a1 v1.1 v1.2.1 v1.2.2.1 v1.2.2.2.1 v1.2.2.2.2.1 v1.2.2.2.2.2) s.heap.size)) (wWays G a0 w0.1 w0.2.1 w0.2.2 ++ wLoom G a1 v1.1 v1.2.1 v1.2.2.1 v1.2.2.2.1 v1.2.2.2.2.1 v1.2.2.2.2.2) 37 [(0, .ref a0.1), (1, .ref a1.1), (2, .int x2), (3, .int x3)] [.int t0] := by
    intro x2 x3 t0 w0 K7 hK7 hw
    refine v_istore (lv2 := [(0, .ref a0.1), (1, .ref a1.1), (2, .int x2), (3, .int x3), (4, .int t0)]) (pc2 := 39) S dX7_lineUpSets_37 (by decide) [1, 2, 3, 4, 0] rfl rfl ?_
    refine v_iload (pc2 := 41) S 4 dX7_lineUpSets_39 rfl rfl ?_
    refine v_if_eq (pc2 := 44) (tgt := 74) S dX7_lineUpSets_41 (by decide) rfl (fun c4 => ?_) (fun c4 => ?_)
    · have hw := hw.1 c4
      obtain ⟨z5, ez5⟩ : ∃ y : Int32, y = x3 + (1 : Int32) := ⟨_, rfl⟩
      have hw := hw z5 ez5
      refine v_iinc (v := z5) (lv2 := [(0, .ref a0.1), (1, .ref a1.1), (2, .int x2), (3, .int z5), (4, .int t0)]) (pc2 := 77) S 3 dX7_lineUpSets_74 rfl (by rw [ez5]; rfl) (by decide) [1, 2, 3, 0, 4] rfl rfl ?_
      refine v_goto (tgt := 7) S dX7_lineUpSets_77 (by decide) ?_
      refine v_lv [(0, .ref a0.1), (1, .ref a1.1), (2, .int x2), (3, .int z5)] [0, 1, 2, 3] rfl ?_
      exact hK7 z5 w0 hw
    · have hw := hw.2 c4
      refine v_aload_n (pc2 := 45) S 1 dX7_lineUpSets_44 rfl rfl rfl ?_
      refine v_iload_n (pc2 := 46) S 3 dX7_lineUpSets_45 rfl rfl rfl ?_
      refine v_callV (pc2 := 49) (As := [.int x3]) (rest := []) S (c_X3_heldBy l G a1 v1 x3 _ hw) mf_X3_heldBy u_664 u_338 u_339 0 3 rfl rfl rfl rfl ⟨rfl, rfl⟩ ⟨Nat.le_of_ble_eq_true rfl, Nat.le_of_ble_eq_true rfl⟩ ⟨Nat.le_of_ble_eq_true rfl, Nat.le_of_ble_eq_true rfl⟩ (Nat.le_of_ble_eq_true rfl) dX7_lineUpSets_46 (frM (wWays G a0 w0.1 w0.2.1 w0.2.2) (wLoom G a1 v1.1 v1.2.1 v1.2.2.1 v1.2.2.2.1 v1.2.2.2.2.1 v1.2.2.2.2.2) ([])) rfl (pi (fun r6 u7 hw => ?_))
      refine v_to (wWays G a0 w0.1 w0.2.1 w0.2.2 ++ wLoom G a1 v1.1 v1.2.1 v1.2.2.1 v1.2.2.2.1 v1.2.2.2.2.1 v1.2.2.2.2.2) 49 [(0, .ref a0.1), (1, .ref a1.1), (2, .int x2), (3, .int x3), (4, .int t0)] _ [.int r6] rfl rfl rfl rfl ?_
      refine v_iload_n (pc2 := 50) S 3 dX7_lineUpSets_49 rfl rfl rfl ?_
      refine v_iand (pc2 := 51) S dX7_lineUpSets_50 rfl ?_
      refine v_if_ne (pc2 := 54) (tgt := 74) S dX7_lineUpSets_51 (by decide) rfl (fun c8 => ?_) (fun c8 => ?_)
      · have hw := hw.1 c8
        obtain ⟨z9, ez9⟩ : ∃ y : Int32, y = x3 + (1 : Int32) := ⟨_, rfl⟩
        have hw := hw z9 ez9
        refine v_iinc (v := z9) (lv2 := [(0, .ref a0.1), (1, .ref a1.1), (2, .int x2), (3, .int z9), (4, .int t0)]) (pc2 := 77) S 3 dX7_lineUpSets_74 rfl (by rw [ez9]; rfl) (by decide) [1, 2, 3, 0, 4] rfl rfl ?_
        refine v_goto (tgt := 7) S dX7_lineUpSets_77 (by decide) ?_
        refine v_lv [(0, .ref a0.1), (1, .ref a1.1), (2, .int x2), (3, .int z9)] [0, 1, 2, 3] rfl ?_
        exact hK7 z9 w0 hw
      · have hw := hw.2 c8
        refine v_aload_n (pc2 := 55) S 0 dX7_lineUpSets_54 rfl rfl rfl ?_
        refine v_get (v := .ref a0.2.2) (pc2 := 58) S gf_X7_15 0 rfl rfl dX7_lineUpSets_55 rfl ?_
        refine v_aload_n (pc2 := 59) S 0 dX7_lineUpSets_58 rfl rfl rfl ?_
        refine v_get (v := .int w0.2.2) (pc2 := 62) S gf_X7_18 0 rfl rfl dX7_lineUpSets_59 rfl ?_
        refine v_iload_n (pc2 := 63) S 3 dX7_lineUpSets_62 rfl rfl rfl ?_
        obtain ⟨h10, hw⟩ := hw
        obtain ⟨g11, eg11⟩ : ∃ y : Nat → Int32, y = upd w0.2.1 w0.2.2.toNatClampNeg x3 := ⟨_, rfl⟩
        have hw := hw g11 eg11
        refine v_iast (ws2 := wWays G a0 w0.1 g11 w0.2.2 ++ wLoom G a1 v1.1 v1.2.1 v1.2.2.1 v1.2.2.2.1 v1.2.2.2.2.1 v1.2.2.2.2.2) (pc2 := 64) S 2 rfl h10 (by rw [eg11] <;> rfl) dX7_lineUpSets_63 rfl ?_
        refine v_aload_n (pc2 := 65) S 0 dX7_lineUpSets_64 rfl rfl rfl ?_
        refine v_dup (pc2 := 66) S dX7_lineUpSets_65 rfl rfl ?_
        refine v_get (v := .int w0.2.2) (pc2 := 69) S gf_X7_18 0 rfl rfl dX7_lineUpSets_66 rfl ?_
        refine v_iconst (v := 1) (pc2 := 70) S dX7_lineUpSets_69 (by decide) rfl ?_
        refine v_iadd (pc2 := 71) S dX7_lineUpSets_70 rfl ?_
        refine v_nm (fun z12 ez12 => ?_)
        have hw := hw z12 ez12
        refine v_put (ws2 := wWays G a0 w0.1 g11 z12 ++ wLoom G a1 v1.1 v1.2.1 v1.2.2.1 v1.2.2.2.1 v1.2.2.2.2.1 v1.2.2.2.2.2) (pc2 := 74) S gf_X7_18 pf_X7_2 0 rfl rfl rfl (Nat.le_of_ble_eq_true rfl) rfl dX7_lineUpSets_71 rfl ?_
        obtain ⟨z13, ez13⟩ : ∃ y : Int32, y = x3 + (1 : Int32) := ⟨_, rfl⟩
        have hw := hw z13 ez13
        refine v_iinc (v := z13) (lv2 := [(0, .ref a0.1), (1, .ref a1.1), (2, .int x2), (3, .int z13), (4, .int t0)]) (pc2 := 77) S 3 dX7_lineUpSets_74 rfl (by rw [ez13]; rfl) (by decide) [1, 2, 3, 0, 4] rfl rfl ?_
        refine v_goto (tgt := 7) S dX7_lineUpSets_77 (by decide) ?_
        refine v_lv [(0, .ref a0.1), (1, .ref a1.1), (2, .int x2), (3, .int z13)] [0, 1, 2, 3] rfl ?_
        exact hK7 z13 (w0.1, g11, z12) hw
  have L7 : ∀ (x2 : Int32) (kk : Nat) (x3 : Int32) (w0 : WaysV), wp_X7_lineUpSets_L7 v1 x2 Q kk x3 w0 → V p l e { frames := 2, cells := 0, slots := 0, locals := 44 } s m args below meth c G (va_A (wWays G a0 v0.1 v0.2.1 v0.2.2 ++ wLoom G a1 v1.1 v1.2.1 v1.2.2.1 v1.2.2.2.1 v1.2.2.2.2.1 v1.2.2.2.2.2) s.heap.size) 5 0 0 (MQ below (EQ G (wWays G a0 v0.1 v0.2.1 v0.2.2 ++ wLoom G a1 v1.1 v1.2.1 v1.2.2.1 v1.2.2.2.1 v1.2.2.2.2.1 v1.2.2.2.2.2) s.heap.size (PV (fun u : WaysV => wWays G a0 u.1 u.2.1 u.2.2 ++ wLoom G a1 v1.1 v1.2.1 v1.2.2.1 v1.2.2.2.1 v1.2.2.2.2.1 v1.2.2.2.2.2) Q)) args s 0 0 (va_A (wWays G a0 v0.1 v0.2.1 v0.2.2 ++ wLoom G a1 v1.1 v1.2.1 v1.2.2.1 v1.2.2.2.1 v1.2.2.2.2.1 v1.2.2.2.2.2) s.heap.size)) (wWays G a0 w0.1 w0.2.1 w0.2.2 ++ wLoom G a1 v1.1 v1.2.1 v1.2.2.1 v1.2.2.2.1 v1.2.2.2.2.1 v1.2.2.2.2.2) 7 [(0, .ref a0.1), (1, .ref a1.1), (2, .int x2), (3, .int x3)] [] := by
    intro x2 kk
    induction kk with
    | zero => intro x3 w0 hw; exact hw.elim
    | succ n ih =>
      intro x3 w0 hw
      refine v_iload_n (pc2 := 8) S 3 dX7_lineUpSets_7 rfl rfl rfl ?_
      refine v_sipush (v := 1023) (pc2 := 11) S dX7_lineUpSets_8 (by decide) rfl ?_
      refine v_icmp_gt (pc2 := 14) (tgt := 80) S dX7_lineUpSets_11 (by decide) rfl (fun c1 => ?_) (fun c1 => ?_)
      · have hw := hw.1 c1
        exact v_vret S ⟨w0, rfl, rfl, hw⟩ dX7_lineUpSets_80
      · have hw := hw.2 c1
        refine v_aload_n (pc2 := 15) S 0 dX7_lineUpSets_14 rfl rfl rfl ?_
        refine v_get (v := .int w0.2.2) (pc2 := 18) S gf_X7_18 0 rfl rfl dX7_lineUpSets_15 rfl ?_
        refine v_sipush (v := 6144) (pc2 := 21) S dX7_lineUpSets_18 (by decide) rfl ?_
        refine v_icmp_ge (pc2 := 24) (tgt := 80) S dX7_lineUpSets_21 (by decide) rfl (fun c2 => ?_) (fun c2 => ?_)
        · have hw := hw.1 c2
          exact v_vret S ⟨w0, rfl, rfl, hw⟩ dX7_lineUpSets_80
        · have hw := hw.2 c2
          refine v_iload_n (pc2 := 25) S 3 dX7_lineUpSets_24 rfl rfl rfl ?_
          refine v_iload_n (pc2 := 26) S 2 dX7_lineUpSets_25 rfl rfl rfl ?_
          refine v_iconst (v := -1) (pc2 := 27) S dX7_lineUpSets_26 (by decide) rfl ?_
          refine v_ixor (pc2 := 28) S dX7_lineUpSets_27 rfl ?_
          refine v_iand (pc2 := 29) S dX7_lineUpSets_28 rfl ?_
          refine v_if_ne (pc2 := 32) (tgt := 36) S dX7_lineUpSets_29 (by decide) rfl (fun c3 => ?_) (fun c3 => ?_)
          · have hw := hw.1 c3
            refine v_iconst (v := 0) (pc2 := 37) S dX7_lineUpSets_36 (by decide) rfl ?_
            exact B37 x2 x3 (0 : Int32) w0 (wp_X7_lineUpSets_L7 v1 x2 Q n) ih hw
          · have hw := hw.2 c3
            refine v_iconst (v := 1) (pc2 := 33) S dX7_lineUpSets_32 (by decide) rfl ?_
            refine v_goto (tgt := 37) S dX7_lineUpSets_33 (by decide) ?_
            exact B37 x2 x3 (1 : Int32) w0 (wp_X7_lineUpSets_L7 v1 x2 Q n) ih hw
  refine v_aload_n (pc2 := 1) S 0 dX7_lineUpSets_0 rfl rfl rfl ?_
  refine v_iconst (v := 0) (pc2 := 2) S dX7_lineUpSets_1 (by decide) rfl ?_
  refine v_put (ws2 := wWays G a0 v0.1 v0.2.1 (0 : Int32) ++ wLoom G a1 v1.1 v1.2.1 v1.2.2.1 v1.2.2.2.1 v1.2.2.2.2.1 v1.2.2.2.2.2) (pc2 := 5) S gf_X7_18 pf_X7_2 0 rfl rfl rfl (Nat.le_of_ble_eq_true rfl) rfl dX7_lineUpSets_2 rfl ?_
  refine v_iconst (v := 0) (pc2 := 6) S dX7_lineUpSets_5 (by decide) rfl ?_
  refine v_istore_n (lv2 := [(0, .ref a0.1), (1, .ref a1.1), (2, .int i0), (3, .int (0 : Int32))]) (pc2 := 7) S dX7_lineUpSets_6 rfl (by decide) [1, 2, 3, 0] rfl rfl ?_
  obtain ⟨kk, hw⟩ := hw
  exact L7 i0 kk (0 : Int32) (v0.1, v0.2.1, (0 : Int32)) hw
set_option maxHeartbeats 4000000 in
set_option maxRecDepth 100000 in
theorem c_X7_lessen (l : Launch) (G : GG) (a0 : WaysA) (v0 : WaysV) (i0 : Int32) (i1 : Int32) (Q : Int32 → WaysV → Prop) (hw : wp_X7_lessen v0 i0 i1 Q) : Con l G yX7_lessen cX7_lessen 3 (some .int) { frames := 0, cells := 0, slots := 0, locals := 0 } [.ref a0.1, .int i0, .int i1] (wWays G a0 v0.1 v0.2.1 v0.2.2) (PI (fun u : WaysV => wWays G a0 u.1 u.2.1 u.2.2) Q) 0 0 := by
  refine con_of RX7 rfl (by decide) [(0, .ref a0.1), (1, .int i0), (2, .int i1)] rfl (Nat.le_of_ble_eq_true rfl) ?_
  intro p e s m args below meth c S hname
  refine v_aload_n (pc2 := 1) S 0 dX7_lessen_0 rfl rfl rfl ?_
  refine v_get (v := .ref a0.2.1) (pc2 := 4) S gf_X7_9 0 rfl rfl dX7_lessen_1 rfl ?_
  refine v_iload_n (pc2 := 5) S 2 dX7_lessen_4 rfl rfl rfl ?_
  obtain ⟨h1, hw⟩ := hw
  refine v_iald (pc2 := 6) S 1 rfl h1 dX7_lessen_5 rfl ?_
  refine v_iconst (v := 1) (pc2 := 7) S dX7_lessen_6 (by decide) rfl ?_
  refine v_iadd (pc2 := 8) S dX7_lessen_7 rfl ?_
  refine v_aload_n (pc2 := 9) S 0 dX7_lessen_8 rfl rfl rfl ?_
  refine v_get (v := .ref a0.2.1) (pc2 := 12) S gf_X7_9 0 rfl rfl dX7_lessen_9 rfl ?_
  refine v_iload_n (pc2 := 13) S 1 dX7_lessen_12 rfl rfl rfl ?_
  obtain ⟨h2, hw⟩ := hw
  refine v_iald (pc2 := 14) S 1 rfl h2 dX7_lessen_13 rfl ?_
  refine v_icmp_lt (pc2 := 17) (tgt := 19) S dX7_lessen_14 (by decide) rfl (fun c3 => ?_) (fun c3 => ?_)
  · have hw := hw.1 c3
    refine v_aload_n (pc2 := 20) S 0 dX7_lessen_19 rfl rfl rfl ?_
    refine v_get (v := .ref a0.2.1) (pc2 := 23) S gf_X7_9 0 rfl rfl dX7_lessen_20 rfl ?_
    refine v_iload_n (pc2 := 24) S 1 dX7_lessen_23 rfl rfl rfl ?_
    refine v_aload_n (pc2 := 25) S 0 dX7_lessen_24 rfl rfl rfl ?_
    refine v_get (v := .ref a0.2.1) (pc2 := 28) S gf_X7_9 0 rfl rfl dX7_lessen_25 rfl ?_
    refine v_iload_n (pc2 := 29) S 2 dX7_lessen_28 rfl rfl rfl ?_
    obtain ⟨h4, hw⟩ := hw
    refine v_iald (pc2 := 30) S 1 rfl h4 dX7_lessen_29 rfl ?_
    refine v_iconst (v := 1) (pc2 := 31) S dX7_lessen_30 (by decide) rfl ?_
    refine v_iadd (pc2 := 32) S dX7_lessen_31 rfl ?_
    obtain ⟨h5, hw⟩ := hw
    obtain ⟨g6, eg6⟩ : ∃ y : Nat → Int32, y = upd v0.1 i0.toNatClampNeg ((v0.1 i1.toNatClampNeg) + (1 : Int32)) := ⟨_, rfl⟩
    have hw := hw g6 eg6
    refine v_iast (ws2 := wWays G a0 g6 v0.2.1 v0.2.2) (pc2 := 33) S 1 rfl h5 (by rw [eg6] <;> rfl) dX7_lessen_32 rfl ?_
    refine v_iconst (v := 1) (pc2 := 34) S dX7_lessen_33 (by decide) rfl ?_
    exact v_iret S ⟨(1 : Int32), (g6, v0.2.1, v0.2.2), rfl, rfl, hw⟩ dX7_lessen_34
  · have hw := hw.2 c3
    refine v_iconst (v := 0) (pc2 := 18) S dX7_lessen_17 (by decide) rfl ?_
    exact v_iret S ⟨(0 : Int32), v0, rfl, rfl, hw⟩ dX7_lessen_18
set_option maxHeartbeats 4000000 in
set_option maxRecDepth 100000 in
theorem c_X7_lessenAll (l : Launch) (G : GG) (a0 : WaysA) (a1 : LoomA) (v0 : WaysV) (v1 : LoomV) (i0 : Int32) (i1 : Int32) (Q : Int32 → WaysV → Prop) (hw : wp_X7_lessenAll v0 v1 i0 i1 Q) : Con l G yX7_lessenAll cX7_lessenAll 10 (some .int) { frames := 4, cells := 0, slots := 0, locals := 91 } [.ref a0.1, .ref a1.1, .int i0, .int i1] (wWays G a0 v0.1 v0.2.1 v0.2.2 ++ wLoom G a1 v1.1 v1.2.1 v1.2.2.1 v1.2.2.2.1 v1.2.2.2.2.1 v1.2.2.2.2.2) (PI (fun u : WaysV => wWays G a0 u.1 u.2.1 u.2.2 ++ wLoom G a1 v1.1 v1.2.1 v1.2.2.1 v1.2.2.2.1 v1.2.2.2.2.1 v1.2.2.2.2.2) Q) 0 0 := by
  refine con_of RX7 rfl (by decide) [(0, .ref a0.1), (1, .ref a1.1), (2, .int i0), (3, .int i1)] rfl (Nat.le_of_ble_eq_true rfl) ?_
  intro p e s m args below meth c S hname
  have B128 : ∀ (x2 : Int32) (x4 : Int32) (x5 : Int32) (x6 : Int32) (x7 : Int32) (x8 : Int32) (x9 : Int32) (w0 : WaysV) (K21 : Int32 → Int32 → WaysV → Prop) (hK21 : ∀ (y0 : Int32) (y1 : Int32) (y2 : WaysV), K21 y0 y1 y2 → V p l e { frames := 4, cells := 0, slots := 0, locals := 91 } s m args below meth c G (va_A (wWays G a0 v0.1 v0.2.1 v0.2.2 ++ wLoom G a1 v1.1 v1.2.1 v1.2.2.1 v1.2.2.2.1 v1.2.2.2.2.1 v1.2.2.2.2.2) s.heap.size) 10 0 0 (MQ below (EQ G (wWays G a0 v0.1 v0.2.1 v0.2.2 ++ wLoom G a1 v1.1 v1.2.1 v1.2.2.1 v1.2.2.2.1 v1.2.2.2.2.1 v1.2.2.2.2.2) s.heap.size (PI (fun u : WaysV => wWays G a0 u.1 u.2.1 u.2.2 ++ wLoom G a1 v1.1 v1.2.1 v1.2.2.1 v1.2.2.2.1 v1.2.2.2.2.1 v1.2.2.2.2.2) Q)) args s 0 0 (va_A (wWays G a0 v0.1 v0.2.1 v0.2.2 ++ wLoom G a1 v1.1 v1.2.1 v1.2.2.1 v1.2.2.2.1 v1.2.2.2.2.1 v1.2.2.2.2.2) s.heap.size)) (wWays G a0 y2.1 y2.2.1 y2.2.2 ++ wLoom G a1 v1.1 v1.2.1 v1.2.2.1 v1.2.2.2.1 v1.2.2.2.2.1 v1.2.2.2.2.2) 21 [(0, .ref a0.1), (1, .ref a1.1), (2, .int x2), (4, .int x4), (5, .int y0), (6, .int y1)] []), wp_X7_lessenAll_B128 v1 x2 x4 x5 x6 x7 x8 x9 w0 Q K21 → V p l e { frames := 4, cells := 0, slots := 0, locals := 91 } s m args below meth c G (va_A (wWays G a0 v0.1 v0.2.1 v0.2.2 ++ wLoom G a1 v1.1 v1.2.1 v1.2.2.1 v1.2.2.2.1 v1.2.2.2.2.1 v1.2.2.2.2.2) s.heap.size) 10 0 0 (MQ below (EQ G (wWays G a0 v0.1 v0.2.1 v0.2.2 ++ wLoom G a1 v1.1 v1.2.1 v1.2.2.1 v1.2.2.2.1 v1.2.2.2.2.1 v1.2.2.2.2.2) s.heap.size (PI (fun u : WaysV => wWays G a0 u.1 u.2.1 u.2.2 ++ wLoom G a1 v1.1 v1.2.1 v1.2.2.1 v1.2.2.2.1 v1.2.2.2.2.1 v1.2.2.2.2.2) Q)) args s 0 0 (va_A (wWays G a0 v0.1 v0.2.1 v0.2.2 ++ wLoom G a1 v1.1 v1.2.1 v1.2.2.1 v1.2.2.2.1 v1.2.2.2.2.1 v1.2.2.2.2.2) s.heap.size)) (wWays G a0 w0.1 w0.2.1 w0.2.2 ++ wLoom G a1 v1.1 v1.2.1 v1.2.2.1 v1.2.2.2.1 v1.2.2.2.2.1 v1.2.2.2.2.2) 128 [(0, .ref a0.1), (1, .ref a1.1), (2, .int x2), (4, .int x4), (5, .int x5), (6, .int x6), (7, .int x7), (8, .int x8), (9, .int x9)] [] := by
    intro x2 x4 x5 x6 x7 x8 x9 w0 K21 hK21 hw
    refine v_iload (pc2 := 130) S 4 dX7_lessenAll_128 rfl rfl ?_
    refine v_aload_n (pc2 := 131) S 0 dX7_lessenAll_130 rfl rfl rfl ?_
    refine v_iload_n (pc2 := 132) S 2 dX7_lessenAll_131 rfl rfl rfl ?_
    refine v_iload (pc2 := 134) S 6 dX7_lessenAll_132 rfl rfl ?_
    refine v_callSN (pc2 := 137) (As := [.int x2, .int x7]) (rest := [.ref a0.1, .int x5]) S (c_X8_spot l G x2 x7 _ hw) mf_X8_spot u_667 u_646 rfl rfl ⟨rfl, rfl⟩ ⟨Nat.le_of_ble_eq_true rfl, Nat.le_of_ble_eq_true rfl⟩ ⟨Nat.le_of_ble_eq_true rfl, Nat.le_of_ble_eq_true rfl⟩ (Nat.le_of_ble_eq_true rfl) dX7_lessenAll_134 (frM [] [] _) rfl (pi (fun r15 u16 hw => ?_))
    refine v_to (wWays G a0 w0.1 w0.2.1 w0.2.2 ++ wLoom G a1 v1.1 v1.2.1 v1.2.2.1 v1.2.2.2.1 v1.2.2.2.2.1 v1.2.2.2.2.2) 137 [(0, .ref a0.1), (1, .ref a1.1), (2, .int x2), (4, .int x4), (5, .int x5), (6, .int x6), (7, .int x7), (8, .int x8), (9, .int x9)] _ [.int r15, .ref a0.1, .int x5] rfl rfl rfl rfl ?_
    refine v_iload (pc2 := 139) S 8 dX7_lessenAll_137 rfl rfl ?_
    refine v_iload (pc2 := 141) S 6 dX7_lessenAll_139 rfl rfl ?_
    refine v_callSN (pc2 := 144) (As := [.int x9, .int x7]) (rest := [.int r15, .ref a0.1, .int x5]) S (c_X8_spot l G x9 x7 _ hw) mf_X8_spot u_667 u_646 rfl rfl ⟨rfl, rfl⟩ ⟨Nat.le_of_ble_eq_true rfl, Nat.le_of_ble_eq_true rfl⟩ ⟨Nat.le_of_ble_eq_true rfl, Nat.le_of_ble_eq_true rfl⟩ (Nat.le_of_ble_eq_true rfl) dX7_lessenAll_141 (frM [] [] _) rfl (pi (fun r17 u18 hw => ?_))
    refine v_to (wWays G a0 w0.1 w0.2.1 w0.2.2 ++ wLoom G a1 v1.1 v1.2.1 v1.2.2.1 v1.2.2.2.1 v1.2.2.2.2.1 v1.2.2.2.2.2) 144 [(0, .ref a0.1), (1, .ref a1.1), (2, .int x2), (4, .int x4), (5, .int x5), (6, .int x6), (7, .int x7), (8, .int x8), (9, .int x9)] _ [.int r17, .int r15, .ref a0.1, .int x5] rfl rfl rfl rfl ?_
    refine v_callV (pc2 := 147) (As := [.int r15, .int r17]) (rest := [.int x5]) S (c_X7_lessen l G a0 w0 r15 r17 _ hw) mf_X7_lessen u_689 u_691 u_15 0 7 rfl rfl rfl rfl ⟨rfl, rfl⟩ ⟨Nat.le_of_ble_eq_true rfl, Nat.le_of_ble_eq_true rfl⟩ ⟨Nat.le_of_ble_eq_true rfl, Nat.le_of_ble_eq_true rfl⟩ (Nat.le_of_ble_eq_true rfl) dX7_lessenAll_144 (frM ([]) (wWays G a0 w0.1 w0.2.1 w0.2.2) (wLoom G a1 v1.1 v1.2.1 v1.2.2.1 v1.2.2.2.1 v1.2.2.2.2.1 v1.2.2.2.2.2)) rfl (pi (fun r19 u20 hw => ?_))
    refine v_to (wWays G a0 u20.1 u20.2.1 u20.2.2 ++ wLoom G a1 v1.1 v1.2.1 v1.2.2.1 v1.2.2.2.1 v1.2.2.2.2.1 v1.2.2.2.2.2) 147 [(0, .ref a0.1), (1, .ref a1.1), (2, .int x2), (4, .int x4), (5, .int x5), (6, .int x6), (7, .int x7), (8, .int x8), (9, .int x9)] _ [.int r19, .int x5] rfl rfl rfl rfl ?_
    refine v_iadd (pc2 := 148) S dX7_lessenAll_147 rfl ?_
    refine v_nm (fun z21 ez21 => ?_)
    have hw := hw z21 ez21
    refine v_istore (lv2 := [(0, .ref a0.1), (1, .ref a1.1), (2, .int x2), (4, .int x4), (5, .int z21), (6, .int x6), (7, .int x7), (8, .int x8), (9, .int x9)]) (pc2 := 150) S dX7_lessenAll_148 (by decide) [1, 2, 3, 4, 0, 5, 6, 7, 8] rfl rfl ?_
    refine v_iload (pc2 := 152) S 4 dX7_lessenAll_150 rfl rfl ?_
    refine v_aload_n (pc2 := 153) S 0 dX7_lessenAll_152 rfl rfl rfl ?_
    refine v_iload_n (pc2 := 154) S 2 dX7_lessenAll_153 rfl rfl rfl ?_
    refine v_iload (pc2 := 156) S 7 dX7_lessenAll_154 rfl rfl ?_
    refine v_callSN (pc2 := 159) (As := [.int x2, .int x8]) (rest := [.ref a0.1, .int z21]) S (c_X8_spot l G x2 x8 _ hw) mf_X8_spot u_667 u_646 rfl rfl ⟨rfl, rfl⟩ ⟨Nat.le_of_ble_eq_true rfl, Nat.le_of_ble_eq_true rfl⟩ ⟨Nat.le_of_ble_eq_true rfl, Nat.le_of_ble_eq_true rfl⟩ (Nat.le_of_ble_eq_true rfl) dX7_lessenAll_156 (frM [] [] _) rfl (pi (fun r22 u23 hw => ?_))
    refine v_to (wWays G a0 u20.1 u20.2.1 u20.2.2 ++ wLoom G a1 v1.1 v1.2.1 v1.2.2.1 v1.2.2.2.1 v1.2.2.2.2.1 v1.2.2.2.2.2) 159 [(0, .ref a0.1), (1, .ref a1.1), (2, .int x2), (4, .int x4), (5, .int z21), (6, .int x6), (7, .int x7), (8, .int x8), (9, .int x9)] _ [.int r22, .ref a0.1, .int z21] rfl rfl rfl rfl ?_
    refine v_iload (pc2 := 161) S 8 dX7_lessenAll_159 rfl rfl ?_
    refine v_iload (pc2 := 163) S 7 dX7_lessenAll_161 rfl rfl ?_
    refine v_callSN (pc2 := 166) (As := [.int x9, .int x8]) (rest := [.int r22, .ref a0.1, .int z21]) S (c_X8_spot l G x9 x8 _ hw) mf_X8_spot u_667 u_646 rfl rfl ⟨rfl, rfl⟩ ⟨Nat.le_of_ble_eq_true rfl, Nat.le_of_ble_eq_true rfl⟩ ⟨Nat.le_of_ble_eq_true rfl, Nat.le_of_ble_eq_true rfl⟩ (Nat.le_of_ble_eq_true rfl) dX7_lessenAll_163 (frM [] [] _) rfl (pi (fun r24 u25 hw => ?_))
    refine v_to (wWays G a0 u20.1 u20.2.1 u20.2.2 ++ wLoom G a1 v1.1 v1.2.1 v1.2.2.1 v1.2.2.2.1 v1.2.2.2.2.1 v1.2.2.2.2.2) 166 [(0, .ref a0.1), (1, .ref a1.1), (2, .int x2), (4, .int x4), (5, .int z21), (6, .int x6), (7, .int x7), (8, .int x8), (9, .int x9)] _ [.int r24, .int r22, .ref a0.1, .int z21] rfl rfl rfl rfl ?_
    refine v_callV (pc2 := 169) (As := [.int r22, .int r24]) (rest := [.int z21]) S (c_X7_lessen l G a0 u20 r22 r24 _ hw) mf_X7_lessen u_689 u_691 u_15 0 7 rfl rfl rfl rfl ⟨rfl, rfl⟩ ⟨Nat.le_of_ble_eq_true rfl, Nat.le_of_ble_eq_true rfl⟩ ⟨Nat.le_of_ble_eq_true rfl, Nat.le_of_ble_eq_true rfl⟩ (Nat.le_of_ble_eq_true rfl) dX7_lessenAll_166 (frM ([]) (wWays G a0 u20.1 u20.2.1 u20.2.2) (wLoom G a1 v1.1 v1.2.1 v1.2.2.1 v1.2.2.2.1 v1.2.2.2.2.1 v1.2.2.2.2.2)) rfl (pi (fun r26 u27 hw => ?_))
    refine v_to (wWays G a0 u27.1 u27.2.1 u27.2.2 ++ wLoom G a1 v1.1 v1.2.1 v1.2.2.1 v1.2.2.2.1 v1.2.2.2.2.1 v1.2.2.2.2.2) 169 [(0, .ref a0.1), (1, .ref a1.1), (2, .int x2), (4, .int x4), (5, .int z21), (6, .int x6), (7, .int x7), (8, .int x8), (9, .int x9)] _ [.int r26, .int z21] rfl rfl rfl rfl ?_
    refine v_iadd (pc2 := 170) S dX7_lessenAll_169 rfl ?_
    refine v_nm (fun z28 ez28 => ?_)
    have hw := hw z28 ez28
    refine v_istore (lv2 := [(0, .ref a0.1), (1, .ref a1.1), (2, .int x2), (4, .int x4), (5, .int z28), (6, .int x6), (7, .int x7), (8, .int x8), (9, .int x9)]) (pc2 := 172) S dX7_lessenAll_170 (by decide) [1, 2, 3, 4, 0, 5, 6, 7, 8] rfl rfl ?_
    obtain ⟨z29, ez29⟩ : ∃ y : Int32, y = x6 + (1 : Int32) := ⟨_, rfl⟩
    have hw := hw z29 ez29
    refine v_iinc (v := z29) (lv2 := [(0, .ref a0.1), (1, .ref a1.1), (2, .int x2), (4, .int x4), (5, .int z28), (6, .int z29), (7, .int x7), (8, .int x8), (9, .int x9)]) (pc2 := 175) S 5 dX7_lessenAll_172 rfl (by rw [ez29]; rfl) (by decide) [1, 2, 3, 4, 5, 0, 6, 7, 8] rfl rfl ?_
    refine v_goto (tgt := 21) S dX7_lessenAll_175 (by decide) ?_
    refine v_lv [(0, .ref a0.1), (1, .ref a1.1), (2, .int x2), (4, .int x4), (5, .int z28), (6, .int z29)] [0, 1, 2, 3, 4, 5] rfl ?_
    exact hK21 z28 z29 u27 hw
  have L21 : ∀ (x2 : Int32) (x4 : Int32) (kk : Nat) (x5 : Int32) (x6 : Int32) (w0 : WaysV), wp_X7_lessenAll_L21 v1 x2 x4 Q kk x5 x6 w0 → V p l e { frames := 4, cells := 0, slots := 0, locals := 91 } s m args below meth c G (va_A (wWays G a0 v0.1 v0.2.1 v0.2.2 ++ wLoom G a1 v1.1 v1.2.1 v1.2.2.1 v1.2.2.2.1 v1.2.2.2.2.1 v1.2.2.2.2.2) s.heap.size) 10 0 0 (MQ below (EQ G (wWays G a0 v0.1 v0.2.1 v0.2.2 ++ wLoom G a1 v1.1 v1.2.1 v1.2.2.1 v1.2.2.2.1 v1.2.2.2.2.1 v1.2.2.2.2.2) s.heap.size (PI (fun u : WaysV => wWays G a0 u.1 u.2.1 u.2.2 ++ wLoom G a1 v1.1 v1.2.1 v1.2.2.1 v1.2.2.2.1 v1.2.2.2.2.1 v1.2.2.2.2.2) Q)) args s 0 0 (va_A (wWays G a0 v0.1 v0.2.1 v0.2.2 ++ wLoom G a1 v1.1 v1.2.1 v1.2.2.1 v1.2.2.2.1 v1.2.2.2.2.1 v1.2.2.2.2.2) s.heap.size)) (wWays G a0 w0.1 w0.2.1 w0.2.2 ++ wLoom G a1 v1.1 v1.2.1 v1.2.2.1 v1.2.2.2.1 v1.2.2.2.2.1 v1.2.2.2.2.2) 21 [(0, .ref a0.1), (1, .ref a1.1), (2, .int x2), (4, .int x4), (5, .int x5), (6, .int x6)] [] := by
    intro x2 x4 kk
    induction kk with
    | zero => intro x5 x6 w0 hw; exact hw.elim
    | succ n ih =>
      intro x5 x6 w0 hw
      refine v_iload (pc2 := 23) S 5 dX7_lessenAll_21 rfl rfl ?_
      refine v_bipush (v := 10) (pc2 := 25) S dX7_lessenAll_23 (by decide) rfl ?_
      refine v_icmp_ge (pc2 := 28) (tgt := 178) S dX7_lessenAll_25 (by decide) rfl (fun c4 => ?_) (fun c4 => ?_)
      · have hw := hw.1 c4
        refine v_iload (pc2 := 180) S 4 dX7_lessenAll_178 rfl rfl ?_
        exact v_iret S ⟨x5, w0, rfl, rfl, hw⟩ dX7_lessenAll_180
      · have hw := hw.2 c4
        refine v_aload_n (pc2 := 29) S 1 dX7_lessenAll_28 rfl rfl rfl ?_
        refine v_iload (pc2 := 31) S 5 dX7_lessenAll_29 rfl rfl ?_
        refine v_callV (pc2 := 34) (As := [.int x6]) (rest := []) S (c_X3_lesserHall l G a1 v1 x6 _ hw) mf_X3_lesserHall u_687 u_432 u_433 0 3 rfl rfl rfl rfl ⟨rfl, rfl⟩ ⟨Nat.le_of_ble_eq_true rfl, Nat.le_of_ble_eq_true rfl⟩ ⟨Nat.le_of_ble_eq_true rfl, Nat.le_of_ble_eq_true rfl⟩ (Nat.le_of_ble_eq_true rfl) dX7_lessenAll_31 (frM (wWays G a0 w0.1 w0.2.1 w0.2.2) (wLoom G a1 v1.1 v1.2.1 v1.2.2.1 v1.2.2.2.1 v1.2.2.2.2.1 v1.2.2.2.2.2) ([])) rfl (pi (fun r5 u6 hw => ?_))
        refine v_to (wWays G a0 w0.1 w0.2.1 w0.2.2 ++ wLoom G a1 v1.1 v1.2.1 v1.2.2.1 v1.2.2.2.1 v1.2.2.2.2.1 v1.2.2.2.2.2) 34 [(0, .ref a0.1), (1, .ref a1.1), (2, .int x2), (4, .int x4), (5, .int x5), (6, .int x6)] _ [.int r5] rfl rfl rfl rfl ?_
        refine v_istore (lv2 := [(0, .ref a0.1), (1, .ref a1.1), (2, .int x2), (4, .int x4), (5, .int x5), (6, .int x6), (7, .int r5)]) (pc2 := 36) S dX7_lessenAll_34 (by decide) [1, 2, 3, 4, 5, 6, 0] rfl rfl ?_
        refine v_aload_n (pc2 := 37) S 1 dX7_lessenAll_36 rfl rfl rfl ?_
        refine v_iload (pc2 := 39) S 5 dX7_lessenAll_37 rfl rfl ?_
        refine v_callV (pc2 := 42) (As := [.int x6]) (rest := []) S (c_X3_greaterHall l G a1 v1 x6 _ hw) mf_X3_greaterHall u_688 u_436 u_437 0 3 rfl rfl rfl rfl ⟨rfl, rfl⟩ ⟨Nat.le_of_ble_eq_true rfl, Nat.le_of_ble_eq_true rfl⟩ ⟨Nat.le_of_ble_eq_true rfl, Nat.le_of_ble_eq_true rfl⟩ (Nat.le_of_ble_eq_true rfl) dX7_lessenAll_39 (frM (wWays G a0 w0.1 w0.2.1 w0.2.2) (wLoom G a1 v1.1 v1.2.1 v1.2.2.1 v1.2.2.2.1 v1.2.2.2.2.1 v1.2.2.2.2.2) ([])) rfl (pi (fun r7 u8 hw => ?_))
        refine v_to (wWays G a0 w0.1 w0.2.1 w0.2.2 ++ wLoom G a1 v1.1 v1.2.1 v1.2.2.1 v1.2.2.2.1 v1.2.2.2.2.1 v1.2.2.2.2.2) 42 [(0, .ref a0.1), (1, .ref a1.1), (2, .int x2), (4, .int x4), (5, .int x5), (6, .int x6), (7, .int r5)] _ [.int r7] rfl rfl rfl rfl ?_
        refine v_istore (lv2 := [(0, .ref a0.1), (1, .ref a1.1), (2, .int x2), (4, .int x4), (5, .int x5), (6, .int x6), (7, .int r5), (8, .int r7)]) (pc2 := 44) S dX7_lessenAll_42 (by decide) [1, 2, 3, 4, 5, 6, 7, 0] rfl rfl ?_
        refine v_iload_n (pc2 := 45) S 2 dX7_lessenAll_44 rfl rfl rfl ?_
        refine v_istore (lv2 := [(0, .ref a0.1), (1, .ref a1.1), (2, .int x2), (4, .int x4), (5, .int x5), (6, .int x6), (7, .int r5), (8, .int r7), (9, .int x2)]) (pc2 := 47) S dX7_lessenAll_45 (by decide) [1, 2, 3, 4, 5, 6, 7, 8, 0] rfl rfl ?_
        refine v_iload_n (pc2 := 48) S 2 dX7_lessenAll_47 rfl rfl rfl ?_
        refine v_iload (pc2 := 50) S 5 dX7_lessenAll_48 rfl rfl ?_
        refine v_callSN (pc2 := 53) (As := [.int x2, .int x6]) (rest := []) S (c_X8_has l G x2 x6 _ hw) mf_X8_has u_665 u_335 rfl rfl ⟨rfl, rfl⟩ ⟨Nat.le_of_ble_eq_true rfl, Nat.le_of_ble_eq_true rfl⟩ ⟨Nat.le_of_ble_eq_true rfl, Nat.le_of_ble_eq_true rfl⟩ (Nat.le_of_ble_eq_true rfl) dX7_lessenAll_50 (frM [] [] _) rfl (pb (fun r9 u10 br9 hw => ?_))
        refine v_to (wWays G a0 w0.1 w0.2.1 w0.2.2 ++ wLoom G a1 v1.1 v1.2.1 v1.2.2.1 v1.2.2.2.1 v1.2.2.2.2.1 v1.2.2.2.2.2) 53 [(0, .ref a0.1), (1, .ref a1.1), (2, .int x2), (4, .int x4), (5, .int x5), (6, .int x6), (7, .int r5), (8, .int r7), (9, .int x2)] _ [.int r9] rfl rfl rfl rfl ?_
        refine v_if_eq (pc2 := 56) (tgt := 109) S dX7_lessenAll_53 (by decide) rfl (fun c11 => ?_) (fun c11 => ?_)
        · have hw := hw.1 c11
          refine v_iload (pc2 := 111) S 3 dX7_lessenAll_109 rfl rfl ?_
          refine v_iload (pc2 := 113) S 5 dX7_lessenAll_111 rfl rfl ?_
          refine v_callSN (pc2 := 116) (As := [.int x4, .int x6]) (rest := []) S (c_X8_has l G x4 x6 _ hw) mf_X8_has u_665 u_335 rfl rfl ⟨rfl, rfl⟩ ⟨Nat.le_of_ble_eq_true rfl, Nat.le_of_ble_eq_true rfl⟩ ⟨Nat.le_of_ble_eq_true rfl, Nat.le_of_ble_eq_true rfl⟩ (Nat.le_of_ble_eq_true rfl) dX7_lessenAll_113 (frM [] [] _) rfl (pb (fun r12 u13 br12 hw => ?_))
          refine v_to (wWays G a0 w0.1 w0.2.1 w0.2.2 ++ wLoom G a1 v1.1 v1.2.1 v1.2.2.1 v1.2.2.2.1 v1.2.2.2.2.1 v1.2.2.2.2.2) 116 [(0, .ref a0.1), (1, .ref a1.1), (2, .int x2), (4, .int x4), (5, .int x5), (6, .int x6), (7, .int r5), (8, .int r7), (9, .int x2)] _ [.int r12] rfl rfl rfl rfl ?_
          refine v_if_eq (pc2 := 119) (tgt := 128) S dX7_lessenAll_116 (by decide) rfl (fun c14 => ?_) (fun c14 => ?_)
          · have hw := hw.1 c14
            exact B128 x2 x4 x5 x6 r5 r7 x2 w0 (wp_X7_lessenAll_L21 v1 x2 x4 Q n) ih hw
          · have hw := hw.2 c14
            refine v_aload_n (pc2 := 120) S 1 dX7_lessenAll_119 rfl rfl rfl ?_
            refine v_iload_n (pc2 := 121) S 2 dX7_lessenAll_120 rfl rfl rfl ?_
            refine v_iload (pc2 := 123) S 5 dX7_lessenAll_121 rfl rfl ?_
            refine v_callV (pc2 := 126) (As := [.int x2, .int x6]) (rest := []) S (c_X3_afterOpening l G a1 v1 x2 x6 _ hw) mf_X3_afterOpening u_669 u_670 u_671 0 3 rfl rfl rfl rfl ⟨rfl, rfl⟩ ⟨Nat.le_of_ble_eq_true rfl, Nat.le_of_ble_eq_true rfl⟩ ⟨Nat.le_of_ble_eq_true rfl, Nat.le_of_ble_eq_true rfl⟩ (Nat.le_of_ble_eq_true rfl) dX7_lessenAll_123 (frM (wWays G a0 w0.1 w0.2.1 w0.2.2) (wLoom G a1 v1.1 v1.2.1 v1.2.2.1 v1.2.2.2.1 v1.2.2.2.2.1 v1.2.2.2.2.2) ([])) rfl (pi (fun r30 u31 hw => ?_))
            refine v_to (wWays G a0 w0.1 w0.2.1 w0.2.2 ++ wLoom G a1 v1.1 v1.2.1 v1.2.2.1 v1.2.2.2.1 v1.2.2.2.2.1 v1.2.2.2.2.2) 126 [(0, .ref a0.1), (1, .ref a1.1), (2, .int x2), (4, .int x4), (5, .int x5), (6, .int x6), (7, .int r5), (8, .int r7), (9, .int x2)] _ [.int r30] rfl rfl rfl rfl ?_
            refine v_istore (lv2 := [(0, .ref a0.1), (1, .ref a1.1), (2, .int x2), (4, .int x4), (5, .int x5), (6, .int x6), (7, .int r5), (8, .int r7), (9, .int r30)]) (pc2 := 128) S dX7_lessenAll_126 (by decide) [1, 2, 3, 4, 5, 6, 7, 8, 0] rfl rfl ?_
            exact B128 x2 x4 x5 x6 r5 r7 r30 w0 (wp_X7_lessenAll_L21 v1 x2 x4 Q n) ih hw
        · have hw := hw.2 c11
          refine v_iload (pc2 := 58) S 4 dX7_lessenAll_56 rfl rfl ?_
          refine v_aload_n (pc2 := 59) S 0 dX7_lessenAll_58 rfl rfl rfl ?_
          refine v_iload_n (pc2 := 60) S 2 dX7_lessenAll_59 rfl rfl rfl ?_
          refine v_iload (pc2 := 62) S 6 dX7_lessenAll_60 rfl rfl ?_
          refine v_callSN (pc2 := 65) (As := [.int x2, .int r5]) (rest := [.ref a0.1, .int x5]) S (c_X8_spot l G x2 r5 _ hw) mf_X8_spot u_667 u_646 rfl rfl ⟨rfl, rfl⟩ ⟨Nat.le_of_ble_eq_true rfl, Nat.le_of_ble_eq_true rfl⟩ ⟨Nat.le_of_ble_eq_true rfl, Nat.le_of_ble_eq_true rfl⟩ (Nat.le_of_ble_eq_true rfl) dX7_lessenAll_62 (frM [] [] _) rfl (pi (fun r32 u33 hw => ?_))
          refine v_to (wWays G a0 w0.1 w0.2.1 w0.2.2 ++ wLoom G a1 v1.1 v1.2.1 v1.2.2.1 v1.2.2.2.1 v1.2.2.2.2.1 v1.2.2.2.2.2) 65 [(0, .ref a0.1), (1, .ref a1.1), (2, .int x2), (4, .int x4), (5, .int x5), (6, .int x6), (7, .int r5), (8, .int r7), (9, .int x2)] _ [.int r32, .ref a0.1, .int x5] rfl rfl rfl rfl ?_
          refine v_iload_n (pc2 := 66) S 2 dX7_lessenAll_65 rfl rfl rfl ?_
          refine v_iload (pc2 := 68) S 7 dX7_lessenAll_66 rfl rfl ?_
          refine v_callSN (pc2 := 71) (As := [.int x2, .int r7]) (rest := [.int r32, .ref a0.1, .int x5]) S (c_X8_spot l G x2 r7 _ hw) mf_X8_spot u_667 u_646 rfl rfl ⟨rfl, rfl⟩ ⟨Nat.le_of_ble_eq_true rfl, Nat.le_of_ble_eq_true rfl⟩ ⟨Nat.le_of_ble_eq_true rfl, Nat.le_of_ble_eq_true rfl⟩ (Nat.le_of_ble_eq_true rfl) dX7_lessenAll_68 (frM [] [] _) rfl (pi (fun r34 u35 hw => ?_))
          refine v_to (wWays G a0 w0.1 w0.2.1 w0.2.2 ++ wLoom G a1 v1.1 v1.2.1 v1.2.2.1 v1.2.2.2.1 v1.2.2.2.2.1 v1.2.2.2.2.2) 71 [(0, .ref a0.1), (1, .ref a1.1), (2, .int x2), (4, .int x4), (5, .int x5), (6, .int x6), (7, .int r5), (8, .int r7), (9, .int x2)] _ [.int r34, .int r32, .ref a0.1, .int x5] rfl rfl rfl rfl ?_
          refine v_callV (pc2 := 74) (As := [.int r32, .int r34]) (rest := [.int x5]) S (c_X7_lessen l G a0 w0 r32 r34 _ hw) mf_X7_lessen u_689 u_691 u_15 0 7 rfl rfl rfl rfl ⟨rfl, rfl⟩ ⟨Nat.le_of_ble_eq_true rfl, Nat.le_of_ble_eq_true rfl⟩ ⟨Nat.le_of_ble_eq_true rfl, Nat.le_of_ble_eq_true rfl⟩ (Nat.le_of_ble_eq_true rfl) dX7_lessenAll_71 (frM ([]) (wWays G a0 w0.1 w0.2.1 w0.2.2) (wLoom G a1 v1.1 v1.2.1 v1.2.2.1 v1.2.2.2.1 v1.2.2.2.2.1 v1.2.2.2.2.2)) rfl (pi (fun r36 u37 hw => ?_))
          refine v_to (wWays G a0 u37.1 u37.2.1 u37.2.2 ++ wLoom G a1 v1.1 v1.2.1 v1.2.2.1 v1.2.2.2.1 v1.2.2.2.2.1 v1.2.2.2.2.2) 74 [(0, .ref a0.1), (1, .ref a1.1), (2, .int x2), (4, .int x4), (5, .int x5), (6, .int x6), (7, .int r5), (8, .int r7), (9, .int x2)] _ [.int r36, .int x5] rfl rfl rfl rfl ?_
          refine v_iadd (pc2 := 75) S dX7_lessenAll_74 rfl ?_
          refine v_nm (fun z38 ez38 => ?_)
          have hw := hw z38 ez38
          refine v_istore (lv2 := [(0, .ref a0.1), (1, .ref a1.1), (2, .int x2), (4, .int x4), (5, .int z38), (6, .int x6), (7, .int r5), (8, .int r7), (9, .int x2)]) (pc2 := 77) S dX7_lessenAll_75 (by decide) [1, 2, 3, 4, 0, 5, 6, 7, 8] rfl rfl ?_
          refine v_iload (pc2 := 79) S 4 dX7_lessenAll_77 rfl rfl ?_
          refine v_aload_n (pc2 := 80) S 0 dX7_lessenAll_79 rfl rfl rfl ?_
          refine v_iload_n (pc2 := 81) S 2 dX7_lessenAll_80 rfl rfl rfl ?_
          refine v_iload (pc2 := 83) S 7 dX7_lessenAll_81 rfl rfl ?_
          refine v_callSN (pc2 := 86) (As := [.int x2, .int r7]) (rest := [.ref a0.1, .int z38]) S (c_X8_spot l G x2 r7 _ hw) mf_X8_spot u_667 u_646 rfl rfl ⟨rfl, rfl⟩ ⟨Nat.le_of_ble_eq_true rfl, Nat.le_of_ble_eq_true rfl⟩ ⟨Nat.le_of_ble_eq_true rfl, Nat.le_of_ble_eq_true rfl⟩ (Nat.le_of_ble_eq_true rfl) dX7_lessenAll_83 (frM [] [] _) rfl (pi (fun r39 u40 hw => ?_))
          refine v_to (wWays G a0 u37.1 u37.2.1 u37.2.2 ++ wLoom G a1 v1.1 v1.2.1 v1.2.2.1 v1.2.2.2.1 v1.2.2.2.2.1 v1.2.2.2.2.2) 86 [(0, .ref a0.1), (1, .ref a1.1), (2, .int x2), (4, .int x4), (5, .int z38), (6, .int x6), (7, .int r5), (8, .int r7), (9, .int x2)] _ [.int r39, .ref a0.1, .int z38] rfl rfl rfl rfl ?_
          refine v_iload_n (pc2 := 87) S 2 dX7_lessenAll_86 rfl rfl rfl ?_
          refine v_iload (pc2 := 89) S 6 dX7_lessenAll_87 rfl rfl ?_
          refine v_callSN (pc2 := 92) (As := [.int x2, .int r5]) (rest := [.int r39, .ref a0.1, .int z38]) S (c_X8_spot l G x2 r5 _ hw) mf_X8_spot u_667 u_646 rfl rfl ⟨rfl, rfl⟩ ⟨Nat.le_of_ble_eq_true rfl, Nat.le_of_ble_eq_true rfl⟩ ⟨Nat.le_of_ble_eq_true rfl, Nat.le_of_ble_eq_true rfl⟩ (Nat.le_of_ble_eq_true rfl) dX7_lessenAll_89 (frM [] [] _) rfl (pi (fun r41 u42 hw => ?_))
          refine v_to (wWays G a0 u37.1 u37.2.1 u37.2.2 ++ wLoom G a1 v1.1 v1.2.1 v1.2.2.1 v1.2.2.2.1 v1.2.2.2.2.1 v1.2.2.2.2.2) 92 [(0, .ref a0.1), (1, .ref a1.1), (2, .int x2), (4, .int x4), (5, .int z38), (6, .int x6), (7, .int r5), (8, .int r7), (9, .int x2)] _ [.int r41, .int r39, .ref a0.1, .int z38] rfl rfl rfl rfl ?_
          refine v_callV (pc2 := 95) (As := [.int r39, .int r41]) (rest := [.int z38]) S (c_X7_lessen l G a0 u37 r39 r41 _ hw) mf_X7_lessen u_689 u_691 u_15 0 7 rfl rfl rfl rfl ⟨rfl, rfl⟩ ⟨Nat.le_of_ble_eq_true rfl, Nat.le_of_ble_eq_true rfl⟩ ⟨Nat.le_of_ble_eq_true rfl, Nat.le_of_ble_eq_true rfl⟩ (Nat.le_of_ble_eq_true rfl) dX7_lessenAll_92 (frM ([]) (wWays G a0 u37.1 u37.2.1 u37.2.2) (wLoom G a1 v1.1 v1.2.1 v1.2.2.1 v1.2.2.2.1 v1.2.2.2.2.1 v1.2.2.2.2.2)) rfl (pi (fun r43 u44 hw => ?_))
          refine v_to (wWays G a0 u44.1 u44.2.1 u44.2.2 ++ wLoom G a1 v1.1 v1.2.1 v1.2.2.1 v1.2.2.2.1 v1.2.2.2.2.1 v1.2.2.2.2.2) 95 [(0, .ref a0.1), (1, .ref a1.1), (2, .int x2), (4, .int x4), (5, .int z38), (6, .int x6), (7, .int r5), (8, .int r7), (9, .int x2)] _ [.int r43, .int z38] rfl rfl rfl rfl ?_
          refine v_iadd (pc2 := 96) S dX7_lessenAll_95 rfl ?_
          refine v_nm (fun z45 ez45 => ?_)
          have hw := hw z45 ez45
          refine v_istore (lv2 := [(0, .ref a0.1), (1, .ref a1.1), (2, .int x2), (4, .int x4), (5, .int z45), (6, .int x6), (7, .int r5), (8, .int r7), (9, .int x2)]) (pc2 := 98) S dX7_lessenAll_96 (by decide) [1, 2, 3, 4, 0, 5, 6, 7, 8] rfl rfl ?_
          refine v_iload_n (pc2 := 99) S 2 dX7_lessenAll_98 rfl rfl rfl ?_
          refine v_iload (pc2 := 101) S 5 dX7_lessenAll_99 rfl rfl ?_
          refine v_callSN (pc2 := 104) (As := [.int x2, .int x6]) (rest := []) S (c_X8_without l G x2 x6 _ hw) mf_X8_without u_668 u_373 rfl rfl ⟨rfl, rfl⟩ ⟨Nat.le_of_ble_eq_true rfl, Nat.le_of_ble_eq_true rfl⟩ ⟨Nat.le_of_ble_eq_true rfl, Nat.le_of_ble_eq_true rfl⟩ (Nat.le_of_ble_eq_true rfl) dX7_lessenAll_101 (frM [] [] _) rfl (pi (fun r46 u47 hw => ?_))
          refine v_to (wWays G a0 u44.1 u44.2.1 u44.2.2 ++ wLoom G a1 v1.1 v1.2.1 v1.2.2.1 v1.2.2.2.1 v1.2.2.2.2.1 v1.2.2.2.2.2) 104 [(0, .ref a0.1), (1, .ref a1.1), (2, .int x2), (4, .int x4), (5, .int z45), (6, .int x6), (7, .int r5), (8, .int r7), (9, .int x2)] _ [.int r46] rfl rfl rfl rfl ?_
          refine v_istore (lv2 := [(0, .ref a0.1), (1, .ref a1.1), (2, .int x2), (4, .int x4), (5, .int z45), (6, .int x6), (7, .int r5), (8, .int r7), (9, .int r46)]) (pc2 := 106) S dX7_lessenAll_104 (by decide) [1, 2, 3, 4, 5, 6, 7, 8, 0] rfl rfl ?_
          refine v_goto (tgt := 128) S dX7_lessenAll_106 (by decide) ?_
          exact B128 x2 x4 z45 x6 r5 r7 r46 u44 (wp_X7_lessenAll_L21 v1 x2 x4 Q n) ih hw
  refine v_iload_n (pc2 := 1) S 3 dX7_lessenAll_0 rfl rfl rfl ?_
  refine v_iload_n (pc2 := 2) S 2 dX7_lessenAll_1 rfl rfl rfl ?_
  refine v_iconst (v := -1) (pc2 := 3) S dX7_lessenAll_2 (by decide) rfl ?_
  refine v_ixor (pc2 := 4) S dX7_lessenAll_3 rfl ?_
  refine v_iand (pc2 := 5) S dX7_lessenAll_4 rfl ?_
  refine v_aload_n (pc2 := 6) S 1 dX7_lessenAll_5 rfl rfl rfl ?_
  refine v_iload_n (pc2 := 7) S 2 dX7_lessenAll_6 rfl rfl rfl ?_
  refine v_callV (pc2 := 10) (As := [.int i0]) (rest := [.int (i1 &&& (i0 ^^^ (-1 : Int32)))]) S (c_X3_heldBy l G a1 v1 i0 _ hw) mf_X3_heldBy u_664 u_338 u_339 0 3 rfl rfl rfl rfl ⟨rfl, rfl⟩ ⟨Nat.le_of_ble_eq_true rfl, Nat.le_of_ble_eq_true rfl⟩ ⟨Nat.le_of_ble_eq_true rfl, Nat.le_of_ble_eq_true rfl⟩ (Nat.le_of_ble_eq_true rfl) dX7_lessenAll_7 (frM (wWays G a0 v0.1 v0.2.1 v0.2.2) (wLoom G a1 v1.1 v1.2.1 v1.2.2.1 v1.2.2.2.1 v1.2.2.2.2.1 v1.2.2.2.2.2) ([])) rfl (pi (fun r1 u2 hw => ?_))
  refine v_to (wWays G a0 v0.1 v0.2.1 v0.2.2 ++ wLoom G a1 v1.1 v1.2.1 v1.2.2.1 v1.2.2.2.1 v1.2.2.2.2.1 v1.2.2.2.2.2) 10 [(0, .ref a0.1), (1, .ref a1.1), (2, .int i0), (3, .int i1)] _ [.int r1, .int (i1 &&& (i0 ^^^ (-1 : Int32)))] rfl rfl rfl rfl ?_
  refine v_iconst (v := -1) (pc2 := 11) S dX7_lessenAll_10 (by decide) rfl ?_
  refine v_ixor (pc2 := 12) S dX7_lessenAll_11 rfl ?_
  refine v_iand (pc2 := 13) S dX7_lessenAll_12 rfl ?_
  refine v_nm (fun z3 ez3 => ?_)
  have hw := hw z3 ez3
  refine v_istore (lv2 := [(0, .ref a0.1), (1, .ref a1.1), (2, .int i0), (3, .int i1), (4, .int z3)]) (pc2 := 15) S dX7_lessenAll_13 (by decide) [1, 2, 3, 4, 0] rfl rfl ?_
  refine v_iconst (v := 0) (pc2 := 16) S dX7_lessenAll_15 (by decide) rfl ?_
  refine v_istore (lv2 := [(0, .ref a0.1), (1, .ref a1.1), (2, .int i0), (3, .int i1), (4, .int z3), (5, .int (0 : Int32))]) (pc2 := 18) S dX7_lessenAll_16 (by decide) [1, 2, 3, 4, 5, 0] rfl rfl ?_
  refine v_iconst (v := 0) (pc2 := 19) S dX7_lessenAll_18 (by decide) rfl ?_
  refine v_istore (lv2 := [(0, .ref a0.1), (1, .ref a1.1), (2, .int i0), (3, .int i1), (4, .int z3), (5, .int (0 : Int32)), (6, .int (0 : Int32))]) (pc2 := 21) S dX7_lessenAll_19 (by decide) [1, 2, 3, 4, 5, 6, 0] rfl rfl ?_
  refine v_lv [(0, .ref a0.1), (1, .ref a1.1), (2, .int i0), (4, .int z3), (5, .int (0 : Int32)), (6, .int (0 : Int32))] [0, 1, 2, 4, 5, 6] rfl ?_
  obtain ⟨kk, hw⟩ := hw
  exact L21 i0 z3 kk (0 : Int32) (0 : Int32) v0 hw
set_option maxHeartbeats 4000000 in
set_option maxRecDepth 100000 in
theorem c_X7_fromHallBack (l : Launch) (G : GG) (a0 : WaysA) (a1 : LoomA) (v0 : WaysV) (v1 : LoomV) (i0 : Int32) (i1 : Int32) (i2 : Int32) (Q : Int32 → WaysV → Prop) (hw : wp_X7_fromHallBack v0 v1 i0 i1 i2 Q) : Con l G yX7_fromHallBack cX7_fromHallBack 8 (some .int) { frames := 5, cells := 0, slots := 0, locals := 120 } [.ref a0.1, .ref a1.1, .int i0, .int i1, .int i2] (wWays G a0 v0.1 v0.2.1 v0.2.2 ++ wLoom G a1 v1.1 v1.2.1 v1.2.2.1 v1.2.2.2.1 v1.2.2.2.2.1 v1.2.2.2.2.2) (PI (fun u : WaysV => wWays G a0 u.1 u.2.1 u.2.2 ++ wLoom G a1 v1.1 v1.2.1 v1.2.2.1 v1.2.2.2.1 v1.2.2.2.2.1 v1.2.2.2.2.2) Q) 0 0 := by
  refine con_of RX7 rfl (by decide) [(0, .ref a0.1), (1, .ref a1.1), (2, .int i0), (3, .int i1), (4, .int i2)] rfl (Nat.le_of_ble_eq_true rfl) ?_
  intro p e s m args below meth c S hname
  have B137 : ∀ (x2 : Int32) (w0 : WaysV), wp_X7_fromHallBack_B137 v1 x2 w0 Q → V p l e { frames := 5, cells := 0, slots := 0, locals := 120 } s m args below meth c G (va_A (wWays G a0 v0.1 v0.2.1 v0.2.2 ++ wLoom G a1 v1.1 v1.2.1 v1.2.2.1 v1.2.2.2.1 v1.2.2.2.2.1 v1.2.2.2.2.2) s.heap.size) 8 0 0 (MQ below (EQ G (wWays G a0 v0.1 v0.2.1 v0.2.2 ++ wLoom G a1 v1.1 v1.2.1 v1.2.2.1 v1.2.2.2.1 v1.2.2.2.2.1 v1.2.2.2.2.2) s.heap.size (PI (fun u : WaysV => wWays G a0 u.1 u.2.1 u.2.2 ++ wLoom G a1 v1.1 v1.2.1 v1.2.2.1 v1.2.2.2.1 v1.2.2.2.2.1 v1.2.2.2.2.2) Q)) args s 0 0 (va_A (wWays G a0 v0.1 v0.2.1 v0.2.2 ++ wLoom G a1 v1.1 v1.2.1 v1.2.2.1 v1.2.2.2.1 v1.2.2.2.2.1 v1.2.2.2.2.2) s.heap.size)) (wWays G a0 w0.1 w0.2.1 w0.2.2 ++ wLoom G a1 v1.1 v1.2.1 v1.2.2.1 v1.2.2.2.1 v1.2.2.2.2.1 v1.2.2.2.2.2) 137 [(0, .ref a0.1), (2, .int x2)] [] := by
    intro x2 w0 hw
    refine v_aload_n (pc2 := 138) S 0 dX7_fromHallBack_137 rfl rfl rfl ?_
    refine v_get (v := .ref a0.2.1) (pc2 := 141) S gf_X7_9 0 rfl rfl dX7_fromHallBack_138 rfl ?_
    refine v_iload_n (pc2 := 142) S 1 dX7_fromHallBack_141 rfl rfl rfl ?_
    obtain ⟨h7, hw⟩ := hw
    refine v_iald (pc2 := 143) S 1 rfl h7 dX7_fromHallBack_142 rfl ?_
    refine v_sipush (v := 6144) (pc2 := 146) S dX7_fromHallBack_143 (by decide) rfl ?_
    refine v_icmp_ne (pc2 := 149) (tgt := 154) S dX7_fromHallBack_146 (by decide) rfl (fun c8 => ?_) (fun c8 => ?_)
    · have hw := hw.1 c8
      refine v_aload_n (pc2 := 155) S 0 dX7_fromHallBack_154 rfl rfl rfl ?_
      refine v_get (v := .ref a0.2.1) (pc2 := 158) S gf_X7_9 0 rfl rfl dX7_fromHallBack_155 rfl ?_
      refine v_iload_n (pc2 := 159) S 1 dX7_fromHallBack_158 rfl rfl rfl ?_
      obtain ⟨h9, hw⟩ := hw
      refine v_iald (pc2 := 160) S 1 rfl h9 dX7_fromHallBack_159 rfl ?_
      exact v_iret S ⟨w0.1 x2.toNatClampNeg, w0, rfl, rfl, hw⟩ dX7_fromHallBack_160
    · have hw := hw.2 c8
      refine v_bipush (v := -4) (pc2 := 151) S dX7_fromHallBack_149 (by decide) rfl ?_
      refine v_goto (tgt := 160) S dX7_fromHallBack_151 (by decide) ?_
      exact v_iret S ⟨(-4 : Int32), w0, rfl, rfl, hw⟩ dX7_fromHallBack_160
  have L90 : ∀ (x2 : Int32) (x3 : Int32) (x6 : Int32) (K71 : Int32 → Int32 → WaysV → Prop) (hK71 : ∀ (y0 : Int32) (y1 : Int32) (y2 : WaysV), K71 y0 y1 y2 → V p l e { frames := 5, cells := 0, slots := 0, locals := 120 } s m args below meth c G (va_A (wWays G a0 v0.1 v0.2.1 v0.2.2 ++ wLoom G a1 v1.1 v1.2.1 v1.2.2.1 v1.2.2.2.1 v1.2.2.2.2.1 v1.2.2.2.2.2) s.heap.size) 8 0 0 (MQ below (EQ G (wWays G a0 v0.1 v0.2.1 v0.2.2 ++ wLoom G a1 v1.1 v1.2.1 v1.2.2.1 v1.2.2.2.1 v1.2.2.2.2.1 v1.2.2.2.2.2) s.heap.size (PI (fun u : WaysV => wWays G a0 u.1 u.2.1 u.2.2 ++ wLoom G a1 v1.1 v1.2.1 v1.2.2.1 v1.2.2.2.1 v1.2.2.2.2.1 v1.2.2.2.2.2) Q)) args s 0 0 (va_A (wWays G a0 v0.1 v0.2.1 v0.2.2 ++ wLoom G a1 v1.1 v1.2.1 v1.2.2.1 v1.2.2.2.1 v1.2.2.2.2.1 v1.2.2.2.2.2) s.heap.size)) (wWays G a0 y2.1 y2.2.1 y2.2.2 ++ wLoom G a1 v1.1 v1.2.1 v1.2.2.1 v1.2.2.2.1 v1.2.2.2.2.1 v1.2.2.2.2.2) 71 [(0, .ref a0.1), (1, .ref a1.1), (2, .int x2), (3, .int x3), (5, .int y0), (6, .int y1)] []) (kk : Nat) (x5 : Int32) (x7 : Int32) (w0 : WaysV), wp_X7_fromHallBack_L90 v1 x2 x3 x6 Q K71 kk x5 x7 w0 → V p l e { frames := 5, cells := 0, slots := 0, locals := 120 } s m args below meth c G (va_A (wWays G a0 v0.1 v0.2.1 v0.2.2 ++ wLoom G a1 v1.1 v1.2.1 v1.2.2.1 v1.2.2.2.1 v1.2.2.2.2.1 v1.2.2.2.2.2) s.heap.size) 8 0 0 (MQ below (EQ G (wWays G a0 v0.1 v0.2.1 v0.2.2 ++ wLoom G a1 v1.1 v1.2.1 v1.2.2.1 v1.2.2.2.1 v1.2.2.2.2.1 v1.2.2.2.2.2) s.heap.size (PI (fun u : WaysV => wWays G a0 u.1 u.2.1 u.2.2 ++ wLoom G a1 v1.1 v1.2.1 v1.2.2.1 v1.2.2.2.1 v1.2.2.2.2.1 v1.2.2.2.2.2) Q)) args s 0 0 (va_A (wWays G a0 v0.1 v0.2.1 v0.2.2 ++ wLoom G a1 v1.1 v1.2.1 v1.2.2.1 v1.2.2.2.1 v1.2.2.2.2.1 v1.2.2.2.2.2) s.heap.size)) (wWays G a0 w0.1 w0.2.1 w0.2.2 ++ wLoom G a1 v1.1 v1.2.1 v1.2.2.1 v1.2.2.2.1 v1.2.2.2.2.1 v1.2.2.2.2.2) 90 [(0, .ref a0.1), (1, .ref a1.1), (2, .int x2), (3, .int x3), (5, .int x5), (6, .int x6), (7, .int x7)] [] := by
    intro x2 x3 x6 K71 hK71 kk
    induction kk with
    | zero => intro x5 x7 w0 hw; exact hw.elim
    | succ n ih =>
      intro x5 x7 w0 hw
      refine v_iload (pc2 := 92) S 6 dX7_fromHallBack_90 rfl rfl ?_
      refine v_aload_n (pc2 := 93) S 0 dX7_fromHallBack_92 rfl rfl rfl ?_
      refine v_get (v := .int w0.2.2) (pc2 := 96) S gf_X7_18 0 rfl rfl dX7_fromHallBack_93 rfl ?_
      refine v_icmp_ge (pc2 := 99) (tgt := 131) S dX7_fromHallBack_96 (by decide) rfl (fun c11 => ?_) (fun c11 => ?_)
      · have hw := hw.1 c11
        obtain ⟨z12, ez12⟩ : ∃ y : Int32, y = x6 + (1 : Int32) := ⟨_, rfl⟩
        have hw := hw z12 ez12
        refine v_iinc (v := z12) (lv2 := [(0, .ref a0.1), (1, .ref a1.1), (2, .int x2), (3, .int x3), (5, .int x5), (6, .int z12), (7, .int x7)]) (pc2 := 134) S 5 dX7_fromHallBack_131 rfl (by rw [ez12]; rfl) (by decide) [1, 2, 3, 4, 5, 0, 6] rfl rfl ?_
        refine v_goto (tgt := 71) S dX7_fromHallBack_134 (by decide) ?_
        refine v_lv [(0, .ref a0.1), (1, .ref a1.1), (2, .int x2), (3, .int x3), (5, .int x5), (6, .int z12)] [0, 1, 2, 3, 4, 5] rfl ?_
        exact hK71 x5 z12 w0 hw
      · have hw := hw.2 c11
        refine v_iload (pc2 := 101) S 6 dX7_fromHallBack_99 rfl rfl ?_
        refine v_sipush (v := 6144) (pc2 := 104) S dX7_fromHallBack_101 (by decide) rfl ?_
        refine v_icmp_ge (pc2 := 107) (tgt := 131) S dX7_fromHallBack_104 (by decide) rfl (fun c13 => ?_) (fun c13 => ?_)
        · have hw := hw.1 c13
          obtain ⟨z14, ez14⟩ : ∃ y : Int32, y = x6 + (1 : Int32) := ⟨_, rfl⟩
          have hw := hw z14 ez14
          refine v_iinc (v := z14) (lv2 := [(0, .ref a0.1), (1, .ref a1.1), (2, .int x2), (3, .int x3), (5, .int x5), (6, .int z14), (7, .int x7)]) (pc2 := 134) S 5 dX7_fromHallBack_131 rfl (by rw [ez14]; rfl) (by decide) [1, 2, 3, 4, 5, 0, 6] rfl rfl ?_
          refine v_goto (tgt := 71) S dX7_fromHallBack_134 (by decide) ?_
          refine v_lv [(0, .ref a0.1), (1, .ref a1.1), (2, .int x2), (3, .int x3), (5, .int x5), (6, .int z14)] [0, 1, 2, 3, 4, 5] rfl ?_
          exact hK71 x5 z14 w0 hw
        · have hw := hw.2 c13
          refine v_iload (pc2 := 109) S 4 dX7_fromHallBack_107 rfl rfl ?_
          refine v_aload_n (pc2 := 110) S 0 dX7_fromHallBack_109 rfl rfl rfl ?_
          refine v_aload_n (pc2 := 111) S 1 dX7_fromHallBack_110 rfl rfl rfl ?_
          refine v_aload_n (pc2 := 112) S 0 dX7_fromHallBack_111 rfl rfl rfl ?_
          refine v_get (v := .ref a0.2.2) (pc2 := 115) S gf_X7_15 0 rfl rfl dX7_fromHallBack_112 rfl ?_
          refine v_iload (pc2 := 117) S 6 dX7_fromHallBack_115 rfl rfl ?_
          obtain ⟨h15, hw⟩ := hw
          refine v_iald (pc2 := 118) S 2 rfl h15 dX7_fromHallBack_117 rfl ?_
          refine v_iload_n (pc2 := 119) S 3 dX7_fromHallBack_118 rfl rfl rfl ?_
          refine v_callV (pc2 := 122) (As := [.ref a1.1, .int (w0.2.1 x7.toNatClampNeg), .int x3]) (rest := [.int x5]) S (c_X7_lessenAll l G a0 a1 w0 v1 (w0.2.1 x7.toNatClampNeg) x3 _ hw) mf_X7_lessenAll u_683 u_685 u_14 0 7 rfl rfl rfl rfl ⟨rfl, rfl⟩ ⟨Nat.le_of_ble_eq_true rfl, Nat.le_of_ble_eq_true rfl⟩ ⟨Nat.le_of_ble_eq_true rfl, Nat.le_of_ble_eq_true rfl⟩ (Nat.le_of_ble_eq_true rfl) dX7_fromHallBack_119 (frW _) rfl (pi (fun r16 u17 hw => ?_))
          refine v_to (wWays G a0 u17.1 u17.2.1 u17.2.2 ++ wLoom G a1 v1.1 v1.2.1 v1.2.2.1 v1.2.2.2.1 v1.2.2.2.2.1 v1.2.2.2.2.2) 122 [(0, .ref a0.1), (1, .ref a1.1), (2, .int x2), (3, .int x3), (5, .int x5), (6, .int x6), (7, .int x7)] _ [.int r16, .int x5] rfl rfl rfl rfl ?_
          refine v_iadd (pc2 := 123) S dX7_fromHallBack_122 rfl ?_
          refine v_nm (fun z18 ez18 => ?_)
          have hw := hw z18 ez18
          refine v_istore (lv2 := [(0, .ref a0.1), (1, .ref a1.1), (2, .int x2), (3, .int x3), (5, .int z18), (6, .int x6), (7, .int x7)]) (pc2 := 125) S dX7_fromHallBack_123 (by decide) [1, 2, 3, 4, 0, 5, 6] rfl rfl ?_
          obtain ⟨z19, ez19⟩ : ∃ y : Int32, y = x7 + (1 : Int32) := ⟨_, rfl⟩
          have hw := hw z19 ez19
          refine v_iinc (v := z19) (lv2 := [(0, .ref a0.1), (1, .ref a1.1), (2, .int x2), (3, .int x3), (5, .int z18), (6, .int x6), (7, .int z19)]) (pc2 := 128) S 6 dX7_fromHallBack_125 rfl (by rw [ez19]; rfl) (by decide) [1, 2, 3, 4, 5, 6, 0] rfl rfl ?_
          refine v_goto (tgt := 90) S dX7_fromHallBack_128 (by decide) ?_
          exact ih z18 z19 u17 hw
  have L71 : ∀ (x2 : Int32) (x3 : Int32) (kk : Nat) (x5 : Int32) (x6 : Int32) (w0 : WaysV), wp_X7_fromHallBack_L71 v1 x2 x3 Q kk x5 x6 w0 → V p l e { frames := 5, cells := 0, slots := 0, locals := 120 } s m args below meth c G (va_A (wWays G a0 v0.1 v0.2.1 v0.2.2 ++ wLoom G a1 v1.1 v1.2.1 v1.2.2.1 v1.2.2.2.1 v1.2.2.2.2.1 v1.2.2.2.2.2) s.heap.size) 8 0 0 (MQ below (EQ G (wWays G a0 v0.1 v0.2.1 v0.2.2 ++ wLoom G a1 v1.1 v1.2.1 v1.2.2.1 v1.2.2.2.1 v1.2.2.2.2.1 v1.2.2.2.2.2) s.heap.size (PI (fun u : WaysV => wWays G a0 u.1 u.2.1 u.2.2 ++ wLoom G a1 v1.1 v1.2.1 v1.2.2.1 v1.2.2.2.1 v1.2.2.2.2.1 v1.2.2.2.2.2) Q)) args s 0 0 (va_A (wWays G a0 v0.1 v0.2.1 v0.2.2 ++ wLoom G a1 v1.1 v1.2.1 v1.2.2.1 v1.2.2.2.1 v1.2.2.2.2.1 v1.2.2.2.2.2) s.heap.size)) (wWays G a0 w0.1 w0.2.1 w0.2.2 ++ wLoom G a1 v1.1 v1.2.1 v1.2.2.1 v1.2.2.2.1 v1.2.2.2.2.1 v1.2.2.2.2.2) 71 [(0, .ref a0.1), (1, .ref a1.1), (2, .int x2), (3, .int x3), (5, .int x5), (6, .int x6)] [] := by
    intro x2 x3 kk
    induction kk with
    | zero => intro x5 x6 w0 hw; exact hw.elim
    | succ n ih =>
      intro x5 x6 w0 hw
      refine v_iload (pc2 := 73) S 5 dX7_fromHallBack_71 rfl rfl ?_
      refine v_sipush (v := 6144) (pc2 := 76) S dX7_fromHallBack_73 (by decide) rfl ?_
      refine v_icmp_ge (pc2 := 79) (tgt := 137) S dX7_fromHallBack_76 (by decide) rfl (fun c6 => ?_) (fun c6 => ?_)
      · have hw := hw.1 c6
        refine v_lv [(0, .ref a0.1), (2, .int x2)] [0, 2] rfl ?_
        exact B137 x2 w0 hw
      · have hw := hw.2 c6
        refine v_iload (pc2 := 81) S 4 dX7_fromHallBack_79 rfl rfl ?_
        refine v_if_le (pc2 := 84) (tgt := 137) S dX7_fromHallBack_81 (by decide) rfl (fun c10 => ?_) (fun c10 => ?_)
        · have hw := hw.1 c10
          refine v_lv [(0, .ref a0.1), (2, .int x2)] [0, 2] rfl ?_
          exact B137 x2 w0 hw
        · have hw := hw.2 c10
          refine v_iconst (v := 0) (pc2 := 85) S dX7_fromHallBack_84 (by decide) rfl ?_
          refine v_istore (lv2 := [(0, .ref a0.1), (1, .ref a1.1), (2, .int x2), (3, .int x3), (5, .int (0 : Int32)), (6, .int x6)]) (pc2 := 87) S dX7_fromHallBack_85 (by decide) [1, 2, 3, 4, 0, 5] rfl rfl ?_
          refine v_iconst (v := 0) (pc2 := 88) S dX7_fromHallBack_87 (by decide) rfl ?_
          refine v_istore (lv2 := [(0, .ref a0.1), (1, .ref a1.1), (2, .int x2), (3, .int x3), (5, .int (0 : Int32)), (6, .int x6), (7, .int (0 : Int32))]) (pc2 := 90) S dX7_fromHallBack_88 (by decide) [1, 2, 3, 4, 5, 6, 0] rfl rfl ?_
          obtain ⟨kk, hw⟩ := hw
          exact L90 x2 x3 x6 (wp_X7_fromHallBack_L71 v1 x2 x3 Q n) ih kk (0 : Int32) (0 : Int32) w0 hw
  have L24 : ∀ (x2 : Int32) (x3 : Int32) (x4 : Int32) (kk : Nat) (x5 : Int32) (w0 : WaysV), wp_X7_fromHallBack_L24 v1 x2 x3 x4 Q kk x5 w0 → V p l e { frames := 5, cells := 0, slots := 0, locals := 120 } s m args below meth c G (va_A (wWays G a0 v0.1 v0.2.1 v0.2.2 ++ wLoom G a1 v1.1 v1.2.1 v1.2.2.1 v1.2.2.2.1 v1.2.2.2.2.1 v1.2.2.2.2.2) s.heap.size) 8 0 0 (MQ below (EQ G (wWays G a0 v0.1 v0.2.1 v0.2.2 ++ wLoom G a1 v1.1 v1.2.1 v1.2.2.1 v1.2.2.2.1 v1.2.2.2.2.1 v1.2.2.2.2.2) s.heap.size (PI (fun u : WaysV => wWays G a0 u.1 u.2.1 u.2.2 ++ wLoom G a1 v1.1 v1.2.1 v1.2.2.1 v1.2.2.2.1 v1.2.2.2.2.1 v1.2.2.2.2.2) Q)) args s 0 0 (va_A (wWays G a0 v0.1 v0.2.1 v0.2.2 ++ wLoom G a1 v1.1 v1.2.1 v1.2.2.1 v1.2.2.2.1 v1.2.2.2.2.1 v1.2.2.2.2.2) s.heap.size)) (wWays G a0 w0.1 w0.2.1 w0.2.2 ++ wLoom G a1 v1.1 v1.2.1 v1.2.2.1 v1.2.2.2.1 v1.2.2.2.2.1 v1.2.2.2.2.2) 24 [(0, .ref a0.1), (1, .ref a1.1), (2, .int x2), (3, .int x3), (4, .int x4), (5, .int x5)] [] := by
    intro x2 x3 x4 kk
    induction kk with
    | zero => intro x5 w0 hw; exact hw.elim
    | succ n ih =>
      intro x5 w0 hw
      refine v_iload (pc2 := 26) S 5 dX7_fromHallBack_24 rfl rfl ?_
      refine v_aload_n (pc2 := 27) S 0 dX7_fromHallBack_26 rfl rfl rfl ?_
      refine v_get (v := .int w0.2.2) (pc2 := 30) S gf_X7_18 0 rfl rfl dX7_fromHallBack_27 rfl ?_
      refine v_icmp_ge (pc2 := 33) (tgt := 65) S dX7_fromHallBack_30 (by decide) rfl (fun c5 => ?_) (fun c5 => ?_)
      · have hw := hw.1 c5
        refine v_iconst (v := 1) (pc2 := 66) S dX7_fromHallBack_65 (by decide) rfl ?_
        refine v_istore (lv2 := [(0, .ref a0.1), (1, .ref a1.1), (2, .int x2), (3, .int x3), (4, .int x4), (5, .int (1 : Int32))]) (pc2 := 68) S dX7_fromHallBack_66 (by decide) [1, 2, 3, 4, 5, 0] rfl rfl ?_
        refine v_iconst (v := 0) (pc2 := 69) S dX7_fromHallBack_68 (by decide) rfl ?_
        refine v_istore (lv2 := [(0, .ref a0.1), (1, .ref a1.1), (2, .int x2), (3, .int x3), (4, .int x4), (5, .int (1 : Int32)), (6, .int (0 : Int32))]) (pc2 := 71) S dX7_fromHallBack_69 (by decide) [1, 2, 3, 4, 5, 6, 0] rfl rfl ?_
        refine v_lv [(0, .ref a0.1), (1, .ref a1.1), (2, .int x2), (3, .int x3), (5, .int (1 : Int32)), (6, .int (0 : Int32))] [0, 1, 2, 3, 5, 6] rfl ?_
        obtain ⟨kk, hw⟩ := hw
        exact L71 x2 x3 kk (1 : Int32) (0 : Int32) w0 hw
      · have hw := hw.2 c5
        refine v_iload (pc2 := 35) S 5 dX7_fromHallBack_33 rfl rfl ?_
        refine v_sipush (v := 6144) (pc2 := 38) S dX7_fromHallBack_35 (by decide) rfl ?_
        refine v_icmp_ge (pc2 := 41) (tgt := 65) S dX7_fromHallBack_38 (by decide) rfl (fun c20 => ?_) (fun c20 => ?_)
        · have hw := hw.1 c20
          refine v_iconst (v := 1) (pc2 := 66) S dX7_fromHallBack_65 (by decide) rfl ?_
          refine v_istore (lv2 := [(0, .ref a0.1), (1, .ref a1.1), (2, .int x2), (3, .int x3), (4, .int x4), (5, .int (1 : Int32))]) (pc2 := 68) S dX7_fromHallBack_66 (by decide) [1, 2, 3, 4, 5, 0] rfl rfl ?_
          refine v_iconst (v := 0) (pc2 := 69) S dX7_fromHallBack_68 (by decide) rfl ?_
          refine v_istore (lv2 := [(0, .ref a0.1), (1, .ref a1.1), (2, .int x2), (3, .int x3), (4, .int x4), (5, .int (1 : Int32)), (6, .int (0 : Int32))]) (pc2 := 71) S dX7_fromHallBack_69 (by decide) [1, 2, 3, 4, 5, 6, 0] rfl rfl ?_
          refine v_lv [(0, .ref a0.1), (1, .ref a1.1), (2, .int x2), (3, .int x3), (5, .int (1 : Int32)), (6, .int (0 : Int32))] [0, 1, 2, 3, 5, 6] rfl ?_
          obtain ⟨kk, hw⟩ := hw
          exact L71 x2 x3 kk (1 : Int32) (0 : Int32) w0 hw
        · have hw := hw.2 c20
          refine v_aload_n (pc2 := 42) S 0 dX7_fromHallBack_41 rfl rfl rfl ?_
          refine v_get (v := .ref a0.2.1) (pc2 := 45) S gf_X7_9 0 rfl rfl dX7_fromHallBack_42 rfl ?_
          refine v_aload_n (pc2 := 46) S 0 dX7_fromHallBack_45 rfl rfl rfl ?_
          refine v_get (v := .ref a0.2.2) (pc2 := 49) S gf_X7_15 0 rfl rfl dX7_fromHallBack_46 rfl ?_
          refine v_iload (pc2 := 51) S 5 dX7_fromHallBack_49 rfl rfl ?_
          obtain ⟨h21, hw⟩ := hw
          refine v_iald (pc2 := 52) S 2 rfl h21 dX7_fromHallBack_51 rfl ?_
          refine v_iload (pc2 := 54) S 4 dX7_fromHallBack_52 rfl rfl ?_
          refine v_callSN (pc2 := 57) (As := [.int (w0.2.1 x5.toNatClampNeg), .int x4]) (rest := [.ref a0.2.1]) S (c_X8_spot l G (w0.2.1 x5.toNatClampNeg) x4 _ hw) mf_X8_spot u_667 u_646 rfl rfl ⟨rfl, rfl⟩ ⟨Nat.le_of_ble_eq_true rfl, Nat.le_of_ble_eq_true rfl⟩ ⟨Nat.le_of_ble_eq_true rfl, Nat.le_of_ble_eq_true rfl⟩ (Nat.le_of_ble_eq_true rfl) dX7_fromHallBack_54 (frM [] [] _) rfl (pi (fun r22 u23 hw => ?_))
          refine v_to (wWays G a0 w0.1 w0.2.1 w0.2.2 ++ wLoom G a1 v1.1 v1.2.1 v1.2.2.1 v1.2.2.2.1 v1.2.2.2.2.1 v1.2.2.2.2.2) 57 [(0, .ref a0.1), (1, .ref a1.1), (2, .int x2), (3, .int x3), (4, .int x4), (5, .int x5)] _ [.int r22, .ref a0.2.1] rfl rfl rfl rfl ?_
          refine v_iconst (v := 0) (pc2 := 58) S dX7_fromHallBack_57 (by decide) rfl ?_
          obtain ⟨h24, hw⟩ := hw
          obtain ⟨g25, eg25⟩ : ∃ y : Nat → Int32, y = upd w0.1 r22.toNatClampNeg (0 : Int32) := ⟨_, rfl⟩
          have hw := hw g25 eg25
          refine v_iast (ws2 := wWays G a0 g25 w0.2.1 w0.2.2 ++ wLoom G a1 v1.1 v1.2.1 v1.2.2.1 v1.2.2.2.1 v1.2.2.2.2.1 v1.2.2.2.2.2) (pc2 := 59) S 1 rfl h24 (by rw [eg25] <;> rfl) dX7_fromHallBack_58 rfl ?_
          obtain ⟨z26, ez26⟩ : ∃ y : Int32, y = x5 + (1 : Int32) := ⟨_, rfl⟩
          have hw := hw z26 ez26
          refine v_iinc (v := z26) (lv2 := [(0, .ref a0.1), (1, .ref a1.1), (2, .int x2), (3, .int x3), (4, .int x4), (5, .int z26)]) (pc2 := 62) S 5 dX7_fromHallBack_59 rfl (by rw [ez26]; rfl) (by decide) [1, 2, 3, 4, 5, 0] rfl rfl ?_
          refine v_goto (tgt := 24) S dX7_fromHallBack_62 (by decide) ?_
          exact ih z26 (g25, w0.2.1, w0.2.2) hw
  refine v_aload_n (pc2 := 1) S 0 dX7_fromHallBack_0 rfl rfl rfl ?_
  refine v_get (v := .ref a0.2.1) (pc2 := 4) S gf_X7_9 0 rfl rfl dX7_fromHallBack_1 rfl ?_
  refine v_sipush (v := 6144) (pc2 := 7) S dX7_fromHallBack_4 (by decide) rfl ?_
  refine v_callS (pc2 := 10) (As := [.ref a0.2.1, .int (6144 : Int32)]) (rest := []) S (c_J7_fill_53178 l G 6144 a0.2.1 v0.1 (6144 : Int32) _ hw) mf_J7_fill_53178 u_652 u_653 rfl rfl ⟨rfl, rfl⟩ ⟨Nat.le_of_ble_eq_true rfl, Nat.le_of_ble_eq_true rfl⟩ ⟨Nat.le_of_ble_eq_true rfl, Nat.le_of_ble_eq_true rfl⟩ (Nat.le_of_ble_eq_true rfl) dX7_fromHallBack_7 (frM ([(a0.1, .inr (7, [.ref a0.2.1, .ref a0.2.2, .int v0.2.2]))]) ([(a0.2.1, .inl (G.2.1, 6144, .inl v0.1))]) (([(a0.2.2, .inl (G.2.1, 6144, .inl v0.2.1))] : va_W) ++ (wLoom G a1 v1.1 v1.2.1 v1.2.2.1 v1.2.2.2.1 v1.2.2.2.2.1 v1.2.2.2.2.2))) rfl (pv (fun u2 hw => ?_))
  refine v_to (wWays G a0 u2 v0.2.1 v0.2.2 ++ wLoom G a1 v1.1 v1.2.1 v1.2.2.1 v1.2.2.2.1 v1.2.2.2.2.1 v1.2.2.2.2.2) 10 [(0, .ref a0.1), (1, .ref a1.1), (2, .int i0), (3, .int i1), (4, .int i2)] _ [] rfl rfl rfl rfl ?_
  refine v_aload_n (pc2 := 11) S 0 dX7_fromHallBack_10 rfl rfl rfl ?_
  refine v_aload_n (pc2 := 12) S 1 dX7_fromHallBack_11 rfl rfl rfl ?_
  refine v_iload_n (pc2 := 13) S 2 dX7_fromHallBack_12 rfl rfl rfl ?_
  refine v_bipush (v := 6) (pc2 := 15) S dX7_fromHallBack_13 (by decide) rfl ?_
  refine v_idiv (pc2 := 16) S (by decide) dX7_fromHallBack_15 rfl ?_
  refine v_iload_n (pc2 := 17) S 3 dX7_fromHallBack_16 rfl rfl rfl ?_
  refine v_ior (pc2 := 18) S dX7_fromHallBack_17 rfl ?_
  refine v_callV (pc2 := 21) (As := [.ref a1.1, .int ((i0 / (6 : Int32)) ||| i1)]) (rest := []) S (c_X7_lineUpSets l G a0 a1 (u2, v0.2.1, v0.2.2) v1 ((i0 / (6 : Int32)) ||| i1) _ hw) mf_X7_lineUpSets u_679 u_681 u_13 0 7 rfl rfl rfl rfl ⟨rfl, rfl⟩ ⟨Nat.le_of_ble_eq_true rfl, Nat.le_of_ble_eq_true rfl⟩ ⟨Nat.le_of_ble_eq_true rfl, Nat.le_of_ble_eq_true rfl⟩ (Nat.le_of_ble_eq_true rfl) dX7_fromHallBack_18 (frW _) rfl (pv (fun u4 hw => ?_))
  refine v_to (wWays G a0 u4.1 u4.2.1 u4.2.2 ++ wLoom G a1 v1.1 v1.2.1 v1.2.2.1 v1.2.2.2.1 v1.2.2.2.2.1 v1.2.2.2.2.2) 21 [(0, .ref a0.1), (1, .ref a1.1), (2, .int i0), (3, .int i1), (4, .int i2)] _ [] rfl rfl rfl rfl ?_
  refine v_iconst (v := 0) (pc2 := 22) S dX7_fromHallBack_21 (by decide) rfl ?_
  refine v_istore (lv2 := [(0, .ref a0.1), (1, .ref a1.1), (2, .int i0), (3, .int i1), (4, .int i2), (5, .int (0 : Int32))]) (pc2 := 24) S dX7_fromHallBack_22 (by decide) [1, 2, 3, 4, 5, 0] rfl rfl ?_
  obtain ⟨kk, hw⟩ := hw
  exact L24 i0 i1 i2 kk (0 : Int32) u4 hw
