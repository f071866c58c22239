set_option maxHeartbeats 4000000 in
set_option maxRecDepth 100000 in
theorem c_X9_lay (l : Launch) (G : GG) (a0 : ModA) (v0 : ModV) (i0 : Int32) (i1 : Int32) (i2 : Int32) (Q : ModV → Prop) (hw : wp_X9_lay v0 i0 i1 i2 Q) : Con l G yX9_lay cX9_lay 4 none { frames := 0, cells := 0, slots := 0, locals := 0 } [.ref a0.1, .int i0, .int i1, .int i2] (wMod G a0 v0) (PV (fun u : ModV => wMod G a0 u) Q) 0 0 := by
  refine con_of RX9 rfl (by decide) [(0, .ref a0.1), (1, .int i0), (2, .int i1), (3, .int i2)] rfl (Nat.le_of_ble_eq_true rfl) ?_
  intro p e s m args below meth c S hname
  refine v_aload_n (pc2 := 1) S 0 dX9_lay_0 rfl rfl rfl ?_
  refine v_get (v := .ref a0.2.1) (pc2 := 4) S gf_X9_7 0 rfl rfl dX9_lay_1 rfl ?_
  refine v_bipush (v := 6) (pc2 := 6) S dX9_lay_4 (by decide) rfl ?_
  refine v_bipush (v := 7) (pc2 := 8) S dX9_lay_6 (by decide) rfl ?_
  refine v_iload_n (pc2 := 9) S 1 dX9_lay_8 rfl rfl rfl ?_
  refine v_imul (pc2 := 10) S dX9_lay_9 rfl ?_
  refine v_iadd (pc2 := 11) S dX9_lay_10 rfl ?_
  refine v_iload_n (pc2 := 12) S 2 dX9_lay_11 rfl rfl rfl ?_
  refine v_iadd (pc2 := 13) S dX9_lay_12 rfl ?_
  refine v_iload_n (pc2 := 14) S 3 dX9_lay_13 rfl rfl rfl ?_
  obtain ⟨h1, hw⟩ := hw
  obtain ⟨g2, eg2⟩ : ∃ y : Nat → Int32, y = upd v0.1 (((6 : Int32) + ((7 : Int32) * i0)) + i1).toNatClampNeg i2 := ⟨_, rfl⟩
  have hw := hw g2 eg2
  refine v_iast (ws2 := wMod G a0 (g2, v0.2.1, v0.2.2.1, v0.2.2.2.1, v0.2.2.2.2.1, v0.2.2.2.2.2.1, v0.2.2.2.2.2.2.1, v0.2.2.2.2.2.2.2.1, v0.2.2.2.2.2.2.2.2.1, v0.2.2.2.2.2.2.2.2.2.1, v0.2.2.2.2.2.2.2.2.2.2.1, v0.2.2.2.2.2.2.2.2.2.2.2.1, v0.2.2.2.2.2.2.2.2.2.2.2.2.1, v0.2.2.2.2.2.2.2.2.2.2.2.2.2.1, v0.2.2.2.2.2.2.2.2.2.2.2.2.2.2.1, v0.2.2.2.2.2.2.2.2.2.2.2.2.2.2.2.1, v0.2.2.2.2.2.2.2.2.2.2.2.2.2.2.2.2)) (pc2 := 15) S 1 rfl h1 (by rw [eg2] <;> rfl) dX9_lay_14 rfl ?_
  exact v_vret S ⟨(g2, v0.2.1, v0.2.2.1, v0.2.2.2.1, v0.2.2.2.2.1, v0.2.2.2.2.2.1, v0.2.2.2.2.2.2.1, v0.2.2.2.2.2.2.2.1, v0.2.2.2.2.2.2.2.2.1, v0.2.2.2.2.2.2.2.2.2.1, v0.2.2.2.2.2.2.2.2.2.2.1, v0.2.2.2.2.2.2.2.2.2.2.2.1, v0.2.2.2.2.2.2.2.2.2.2.2.2.1, v0.2.2.2.2.2.2.2.2.2.2.2.2.2.1, v0.2.2.2.2.2.2.2.2.2.2.2.2.2.2.1, v0.2.2.2.2.2.2.2.2.2.2.2.2.2.2.2.1, v0.2.2.2.2.2.2.2.2.2.2.2.2.2.2.2.2), rfl, rfl, hw⟩ dX9_lay_15
set_option maxHeartbeats 4000000 in
set_option maxRecDepth 100000 in
theorem c_X9_init (l : Launch) (G : GG) (a0 : Nat) (Q : ModV → Prop) (hw : wp_X9_init Q) : Con l G yX9_init cX9_init 2 none { frames := 1, cells := 8, slots := 13067, locals := 23 } [.ref a0] [(a0, .inr (9, [.null, .null, .null, .int 0, .null, .int 0, .null, .int 0, .int 0, .int 0, .int 0, .int 0, .null, .int 0, .null, .null, .int 0]))] (PV (fun u : ModA × ModV => wMod G u.1 u.2) (fun u => u.1.1 = a0 ∧ Q u.2)) 8 13067 := by
  refine con_of RX9 rfl (by decide) [(0, .ref a0)] rfl (Nat.le_of_ble_eq_true rfl) ?_
  intro p e s m args below meth c S hname
  have L98 : ∀ (q1 : Nat) (q2 : Nat) (q3 : Nat) (q4 : Nat) (q5 : Nat) (q6 : Nat) (q7 : Nat) (q8 : Nat) (kk : Nat) (x1 : Int32) (w0 : ModV), wp_X9_init_L98 Q kk x1 w0 → V p l e { frames := 1, cells := 8, slots := 13067, locals := 23 } s m args below meth c G (va_A [(a0, .inr (9, [.null, .null, .null, .int 0, .null, .int 0, .null, .int 0, .int 0, .int 0, .int 0, .int 0, .null, .int 0, .null, .null, .int 0]))] s.heap.size) 2 8 13067 (MQ below (EQ G [(a0, .inr (9, [.null, .null, .null, .int 0, .null, .int 0, .null, .int 0, .int 0, .int 0, .int 0, .int 0, .null, .int 0, .null, .null, .int 0]))] s.heap.size (PV (fun u : ModA × ModV => wMod G u.1 u.2) (fun u => u.1.1 = a0 ∧ Q u.2))) args s 8 13067 (va_A [(a0, .inr (9, [.null, .null, .null, .int 0, .null, .int 0, .null, .int 0, .int 0, .int 0, .int 0, .int 0, .null, .int 0, .null, .null, .int 0]))] s.heap.size)) (wMod G (a0, q1, q2, q3, q4, q5, q6, q7, q8) w0) 98 [(0, .ref (((a0, q1, q2, q3, q4, q5, q6, q7, q8)).1)), (1, .int x1)] [] := by
    intro q1 q2 q3 q4 q5 q6 q7 q8 kk
    induction kk with
    | zero => intro x1 w0 hw; exact hw.elim
    | succ n ih =>
      intro x1 w0 hw
      refine v_iload_n (pc2 := 99) S 1 dX9_init_98 rfl rfl rfl ?_
      refine v_bipush (v := 10) (pc2 := 101) S dX9_init_99 (by decide) rfl ?_
      refine v_icmp_ge (pc2 := 104) (tgt := 156) S dX9_init_101 (by decide) rfl (fun c11 => ?_) (fun c11 => ?_)
      · have hw := hw.1 c11
        exact v_vret S ⟨((a0, q1, q2, q3, q4, q5, q6, q7, q8), w0), rfl, rfl, rfl, hw⟩ dX9_init_156
      · have hw := hw.2 c11
        refine v_aload_n (pc2 := 105) S 0 dX9_init_104 rfl rfl rfl ?_
        refine v_iload_n (pc2 := 106) S 1 dX9_init_105 rfl rfl rfl ?_
        refine v_iconst (v := 1) (pc2 := 107) S dX9_init_106 (by decide) rfl ?_
        refine v_iload_n (pc2 := 108) S 1 dX9_init_107 rfl rfl rfl ?_
        refine v_bipush (v := 6) (pc2 := 110) S dX9_init_108 (by decide) rfl ?_
        refine v_irem (pc2 := 111) S (by decide) dX9_init_110 rfl ?_
        refine v_callV (pc2 := 114) (As := [.int x1, .int (1 : Int32), .int (x1 - x1 / (6 : Int32) * (6 : Int32))]) (rest := []) S (c_X9_lay l G (a0, q1, q2, q3, q4, q5, q6, q7, q8) w0 x1 (1 : Int32) (x1 - x1 / (6 : Int32) * (6 : Int32)) _ hw) mf_X9_lay u_747 u_749 u_16 0 9 rfl rfl rfl rfl ⟨rfl, rfl⟩ ⟨Nat.le_of_ble_eq_true rfl, Nat.le_of_ble_eq_true rfl⟩ ⟨Nat.le_of_ble_eq_true rfl, Nat.le_of_ble_eq_true rfl⟩ (Nat.le_of_ble_eq_true rfl) dX9_init_111 (frW _) rfl (pv (fun u13 hw => ?_))
        refine v_to (wMod G (a0, q1, q2, q3, q4, q5, q6, q7, q8) u13) 114 [(0, .ref (((a0, q1, q2, q3, q4, q5, q6, q7, q8)).1)), (1, .int x1)] _ [] rfl rfl rfl rfl ?_
        refine v_aload_n (pc2 := 115) S 0 dX9_init_114 rfl rfl rfl ?_
        refine v_iload_n (pc2 := 116) S 1 dX9_init_115 rfl rfl rfl ?_
        refine v_iconst (v := 2) (pc2 := 117) S dX9_init_116 (by decide) rfl ?_
        refine v_iload_n (pc2 := 118) S 1 dX9_init_117 rfl rfl rfl ?_
        refine v_iconst (v := 1) (pc2 := 119) S dX9_init_118 (by decide) rfl ?_
        refine v_iadd (pc2 := 120) S dX9_init_119 rfl ?_
        refine v_bipush (v := 6) (pc2 := 122) S dX9_init_120 (by decide) rfl ?_
        refine v_irem (pc2 := 123) S (by decide) dX9_init_122 rfl ?_
        refine v_callV (pc2 := 126) (As := [.int x1, .int (2 : Int32), .int ((x1 + (1 : Int32)) - (x1 + (1 : Int32)) / (6 : Int32) * (6 : Int32))]) (rest := []) S (c_X9_lay l G (a0, q1, q2, q3, q4, q5, q6, q7, q8) u13 x1 (2 : Int32) ((x1 + (1 : Int32)) - (x1 + (1 : Int32)) / (6 : Int32) * (6 : Int32)) _ hw) mf_X9_lay u_747 u_749 u_16 0 9 rfl rfl rfl rfl ⟨rfl, rfl⟩ ⟨Nat.le_of_ble_eq_true rfl, Nat.le_of_ble_eq_true rfl⟩ ⟨Nat.le_of_ble_eq_true rfl, Nat.le_of_ble_eq_true rfl⟩ (Nat.le_of_ble_eq_true rfl) dX9_init_123 (frW _) rfl (pv (fun u15 hw => ?_))
        refine v_to (wMod G (a0, q1, q2, q3, q4, q5, q6, q7, q8) u15) 126 [(0, .ref (((a0, q1, q2, q3, q4, q5, q6, q7, q8)).1)), (1, .int x1)] _ [] rfl rfl rfl rfl ?_
        refine v_aload_n (pc2 := 127) S 0 dX9_init_126 rfl rfl rfl ?_
        refine v_iload_n (pc2 := 128) S 1 dX9_init_127 rfl rfl rfl ?_
        refine v_iconst (v := 3) (pc2 := 129) S dX9_init_128 (by decide) rfl ?_
        refine v_iload_n (pc2 := 130) S 1 dX9_init_129 rfl rfl rfl ?_
        refine v_iconst (v := 1) (pc2 := 131) S dX9_init_130 (by decide) rfl ?_
        refine v_iadd (pc2 := 132) S dX9_init_131 rfl ?_
        refine v_bipush (v := 10) (pc2 := 134) S dX9_init_132 (by decide) rfl ?_
        refine v_irem (pc2 := 135) S (by decide) dX9_init_134 rfl ?_
        refine v_callV (pc2 := 138) (As := [.int x1, .int (3 : Int32), .int ((x1 + (1 : Int32)) - (x1 + (1 : Int32)) / (10 : Int32) * (10 : Int32))]) (rest := []) S (c_X9_lay l G (a0, q1, q2, q3, q4, q5, q6, q7, q8) u15 x1 (3 : Int32) ((x1 + (1 : Int32)) - (x1 + (1 : Int32)) / (10 : Int32) * (10 : Int32)) _ hw) mf_X9_lay u_747 u_749 u_16 0 9 rfl rfl rfl rfl ⟨rfl, rfl⟩ ⟨Nat.le_of_ble_eq_true rfl, Nat.le_of_ble_eq_true rfl⟩ ⟨Nat.le_of_ble_eq_true rfl, Nat.le_of_ble_eq_true rfl⟩ (Nat.le_of_ble_eq_true rfl) dX9_init_135 (frW _) rfl (pv (fun u17 hw => ?_))
        refine v_to (wMod G (a0, q1, q2, q3, q4, q5, q6, q7, q8) u17) 138 [(0, .ref (((a0, q1, q2, q3, q4, q5, q6, q7, q8)).1)), (1, .int x1)] _ [] rfl rfl rfl rfl ?_
        refine v_aload_n (pc2 := 139) S 0 dX9_init_138 rfl rfl rfl ?_
        refine v_iload_n (pc2 := 140) S 1 dX9_init_139 rfl rfl rfl ?_
        refine v_iconst (v := 4) (pc2 := 141) S dX9_init_140 (by decide) rfl ?_
        refine v_iload_n (pc2 := 142) S 1 dX9_init_141 rfl rfl rfl ?_
        refine v_iconst (v := 3) (pc2 := 143) S dX9_init_142 (by decide) rfl ?_
        refine v_iadd (pc2 := 144) S dX9_init_143 rfl ?_
        refine v_bipush (v := 10) (pc2 := 146) S dX9_init_144 (by decide) rfl ?_
        refine v_irem (pc2 := 147) S (by decide) dX9_init_146 rfl ?_
        refine v_callV (pc2 := 150) (As := [.int x1, .int (4 : Int32), .int ((x1 + (3 : Int32)) - (x1 + (3 : Int32)) / (10 : Int32) * (10 : Int32))]) (rest := []) S (c_X9_lay l G (a0, q1, q2, q3, q4, q5, q6, q7, q8) u17 x1 (4 : Int32) ((x1 + (3 : Int32)) - (x1 + (3 : Int32)) / (10 : Int32) * (10 : Int32)) _ hw) mf_X9_lay u_747 u_749 u_16 0 9 rfl rfl rfl rfl ⟨rfl, rfl⟩ ⟨Nat.le_of_ble_eq_true rfl, Nat.le_of_ble_eq_true rfl⟩ ⟨Nat.le_of_ble_eq_true rfl, Nat.le_of_ble_eq_true rfl⟩ (Nat.le_of_ble_eq_true rfl) dX9_init_147 (frW _) rfl (pv (fun u19 hw => ?_))
        refine v_to (wMod G (a0, q1, q2, q3, q4, q5, q6, q7, q8) u19) 150 [(0, .ref (((a0, q1, q2, q3, q4, q5, q6, q7, q8)).1)), (1, .int x1)] _ [] rfl rfl rfl rfl ?_
        obtain ⟨z20, ez20⟩ : ∃ y : Int32, y = x1 + (1 : Int32) := ⟨_, rfl⟩
        have hw := hw z20 ez20
        refine v_iinc (v := z20) (lv2 := [(0, .ref (((a0, q1, q2, q3, q4, q5, q6, q7, q8)).1)), (1, .int z20)]) (pc2 := 153) S 1 dX9_init_150 rfl (by rw [ez20]; rfl) (by decide) [1, 0] rfl rfl ?_
        refine v_goto (tgt := 98) S dX9_init_153 (by decide) ?_
        exact ih z20 u19 hw
  refine v_aload_n (pc2 := 1) S 0 dX9_init_0 rfl rfl rfl ?_
  refine v_objInit (pc2 := 4) S u_746 u_80 u_81 (Nat.le_of_ble_eq_true rfl) (Nat.le_of_ble_eq_true rfl) dX9_init_1 rfl ?_
  refine v_aload_n (pc2 := 5) S 0 dX9_init_4 rfl rfl rfl ?_
  refine v_bipush (v := 85) (pc2 := 7) S dX9_init_5 (by decide) rfl ?_
  refine v_newa (pc2 := 9) (N := 85) S u_124 (by decide) (by decide) (Nat.le_of_ble_eq_true rfl) (Nat.le_of_ble_eq_true rfl) (Nat.le_of_ble_eq_true rfl) dX9_init_7 rfl (fun q1 => ?_)
  refine v_to ([(a0, .inr (9, [.null, .null, .null, .int 0, .null, .int 0, .null, .int 0, .int 0, .int 0, .int 0, .int 0, .null, .int 0, .null, .null, .int 0])), (q1, .inl (G.2.1, 85, .inl (fun _ => 0)))]) 9 [(0, .ref a0)] _ [.ref q1, .ref a0] rfl rfl rfl rfl ?_
  refine v_putF (ws2 := [(a0, .inr (9, [.ref q1, .null, .null, .int 0, .null, .int 0, .null, .int 0, .int 0, .int 0, .int 0, .int 0, .null, .int 0, .null, .null, .int 0])), (q1, .inl (G.2.1, 85, .inl (fun _ => 0)))]) (pc2 := 12) S (show meth.name = "<init>" from hname) gf_X9_7 pf_X9_0 rfl 0 rfl rfl rfl (Nat.le_of_ble_eq_true rfl) rfl dX9_init_9 rfl ?_
  refine v_aload_n (pc2 := 13) S 0 dX9_init_12 rfl rfl rfl ?_
  refine v_bipush (v := 85) (pc2 := 15) S dX9_init_13 (by decide) rfl ?_
  refine v_newa (pc2 := 17) (N := 85) S u_124 (by decide) (by decide) (Nat.le_of_ble_eq_true rfl) (Nat.le_of_ble_eq_true rfl) (Nat.le_of_ble_eq_true rfl) dX9_init_15 rfl (fun q2 => ?_)
  refine v_to ([(a0, .inr (9, [.ref q1, .null, .null, .int 0, .null, .int 0, .null, .int 0, .int 0, .int 0, .int 0, .int 0, .null, .int 0, .null, .null, .int 0])), (q1, .inl (G.2.1, 85, .inl (fun _ => 0))), (q2, .inl (G.2.1, 85, .inl (fun _ => 0)))]) 17 [(0, .ref a0)] _ [.ref q2, .ref a0] rfl rfl rfl rfl ?_
  refine v_putF (ws2 := [(a0, .inr (9, [.ref q1, .ref q2, .null, .int 0, .null, .int 0, .null, .int 0, .int 0, .int 0, .int 0, .int 0, .null, .int 0, .null, .null, .int 0])), (q1, .inl (G.2.1, 85, .inl (fun _ => 0))), (q2, .inl (G.2.1, 85, .inl (fun _ => 0)))]) (pc2 := 20) S (show meth.name = "<init>" from hname) gf_X9_13 pf_X9_1 rfl 0 rfl rfl rfl (Nat.le_of_ble_eq_true rfl) rfl dX9_init_17 rfl ?_
  refine v_aload_n (pc2 := 21) S 0 dX9_init_20 rfl rfl rfl ?_
  refine v_sipush (v := 340) (pc2 := 24) S dX9_init_21 (by decide) rfl ?_
  refine v_newa (pc2 := 26) (N := 340) S u_124 (by decide) (by decide) (Nat.le_of_ble_eq_true rfl) (Nat.le_of_ble_eq_true rfl) (Nat.le_of_ble_eq_true rfl) dX9_init_24 rfl (fun q3 => ?_)
  refine v_to ([(a0, .inr (9, [.ref q1, .ref q2, .null, .int 0, .null, .int 0, .null, .int 0, .int 0, .int 0, .int 0, .int 0, .null, .int 0, .null, .null, .int 0])), (q1, .inl (G.2.1, 85, .inl (fun _ => 0))), (q2, .inl (G.2.1, 85, .inl (fun _ => 0))), (q3, .inl (G.2.1, 340, .inl (fun _ => 0)))]) 26 [(0, .ref a0)] _ [.ref q3, .ref a0] rfl rfl rfl rfl ?_
  refine v_putF (ws2 := [(a0, .inr (9, [.ref q1, .ref q2, .ref q3, .int 0, .null, .int 0, .null, .int 0, .int 0, .int 0, .int 0, .int 0, .null, .int 0, .null, .null, .int 0])), (q1, .inl (G.2.1, 85, .inl (fun _ => 0))), (q2, .inl (G.2.1, 85, .inl (fun _ => 0))), (q3, .inl (G.2.1, 340, .inl (fun _ => 0)))]) (pc2 := 29) S (show meth.name = "<init>" from hname) gf_X9_16 pf_X9_2 rfl 0 rfl rfl rfl (Nat.le_of_ble_eq_true rfl) rfl dX9_init_26 rfl ?_
  refine v_aload_n (pc2 := 30) S 0 dX9_init_29 rfl rfl rfl ?_
  refine v_bipush (v := 85) (pc2 := 32) S dX9_init_30 (by decide) rfl ?_
  refine v_newa (pc2 := 34) (N := 85) S u_124 (by decide) (by decide) (Nat.le_of_ble_eq_true rfl) (Nat.le_of_ble_eq_true rfl) (Nat.le_of_ble_eq_true rfl) dX9_init_32 rfl (fun q4 => ?_)
  refine v_to ([(a0, .inr (9, [.ref q1, .ref q2, .ref q3, .int 0, .null, .int 0, .null, .int 0, .int 0, .int 0, .int 0, .int 0, .null, .int 0, .null, .null, .int 0])), (q1, .inl (G.2.1, 85, .inl (fun _ => 0))), (q2, .inl (G.2.1, 85, .inl (fun _ => 0))), (q3, .inl (G.2.1, 340, .inl (fun _ => 0))), (q4, .inl (G.2.1, 85, .inl (fun _ => 0)))]) 34 [(0, .ref a0)] _ [.ref q4, .ref a0] rfl rfl rfl rfl ?_
  refine v_putF (ws2 := [(a0, .inr (9, [.ref q1, .ref q2, .ref q3, .int 0, .ref q4, .int 0, .null, .int 0, .int 0, .int 0, .int 0, .int 0, .null, .int 0, .null, .null, .int 0])), (q1, .inl (G.2.1, 85, .inl (fun _ => 0))), (q2, .inl (G.2.1, 85, .inl (fun _ => 0))), (q3, .inl (G.2.1, 340, .inl (fun _ => 0))), (q4, .inl (G.2.1, 85, .inl (fun _ => 0)))]) (pc2 := 37) S (show meth.name = "<init>" from hname) gf_X9_19 pf_X9_4 rfl 0 rfl rfl rfl (Nat.le_of_ble_eq_true rfl) rfl dX9_init_34 rfl ?_
  refine v_aload_n (pc2 := 38) S 0 dX9_init_37 rfl rfl rfl ?_
  refine v_bipush (v := 60) (pc2 := 40) S dX9_init_38 (by decide) rfl ?_
  refine v_newa (pc2 := 42) (N := 60) S u_124 (by decide) (by decide) (Nat.le_of_ble_eq_true rfl) (Nat.le_of_ble_eq_true rfl) (Nat.le_of_ble_eq_true rfl) dX9_init_40 rfl (fun q5 => ?_)
  refine v_to ([(a0, .inr (9, [.ref q1, .ref q2, .ref q3, .int 0, .ref q4, .int 0, .null, .int 0, .int 0, .int 0, .int 0, .int 0, .null, .int 0, .null, .null, .int 0])), (q1, .inl (G.2.1, 85, .inl (fun _ => 0))), (q2, .inl (G.2.1, 85, .inl (fun _ => 0))), (q3, .inl (G.2.1, 340, .inl (fun _ => 0))), (q4, .inl (G.2.1, 85, .inl (fun _ => 0))), (q5, .inl (G.2.1, 60, .inl (fun _ => 0)))]) 42 [(0, .ref a0)] _ [.ref q5, .ref a0] rfl rfl rfl rfl ?_
  refine v_putF (ws2 := [(a0, .inr (9, [.ref q1, .ref q2, .ref q3, .int 0, .ref q4, .int 0, .ref q5, .int 0, .int 0, .int 0, .int 0, .int 0, .null, .int 0, .null, .null, .int 0])), (q1, .inl (G.2.1, 85, .inl (fun _ => 0))), (q2, .inl (G.2.1, 85, .inl (fun _ => 0))), (q3, .inl (G.2.1, 340, .inl (fun _ => 0))), (q4, .inl (G.2.1, 85, .inl (fun _ => 0))), (q5, .inl (G.2.1, 60, .inl (fun _ => 0)))]) (pc2 := 45) S (show meth.name = "<init>" from hname) gf_X9_22 pf_X9_6 rfl 0 rfl rfl rfl (Nat.le_of_ble_eq_true rfl) rfl dX9_init_42 rfl ?_
  refine v_aload_n (pc2 := 46) S 0 dX9_init_45 rfl rfl rfl ?_
  refine v_bipush (v := -4) (pc2 := 48) S dX9_init_46 (by decide) rfl ?_
  refine v_put (ws2 := [(a0, .inr (9, [.ref q1, .ref q2, .ref q3, .int 0, .ref q4, .int 0, .ref q5, .int 0, .int (-4 : Int32), .int 0, .int 0, .int 0, .null, .int 0, .null, .null, .int 0])), (q1, .inl (G.2.1, 85, .inl (fun _ => 0))), (q2, .inl (G.2.1, 85, .inl (fun _ => 0))), (q3, .inl (G.2.1, 340, .inl (fun _ => 0))), (q4, .inl (G.2.1, 85, .inl (fun _ => 0))), (q5, .inl (G.2.1, 60, .inl (fun _ => 0)))]) (pc2 := 51) S gf_X9_25 pf_X9_8 0 rfl rfl rfl (Nat.le_of_ble_eq_true rfl) rfl dX9_init_48 rfl ?_
  refine v_aload_n (pc2 := 52) S 0 dX9_init_51 rfl rfl rfl ?_
  refine v_bipush (v := -4) (pc2 := 54) S dX9_init_52 (by decide) rfl ?_
  refine v_put (ws2 := [(a0, .inr (9, [.ref q1, .ref q2, .ref q3, .int 0, .ref q4, .int 0, .ref q5, .int 0, .int (-4 : Int32), .int (-4 : Int32), .int 0, .int 0, .null, .int 0, .null, .null, .int 0])), (q1, .inl (G.2.1, 85, .inl (fun _ => 0))), (q2, .inl (G.2.1, 85, .inl (fun _ => 0))), (q3, .inl (G.2.1, 340, .inl (fun _ => 0))), (q4, .inl (G.2.1, 85, .inl (fun _ => 0))), (q5, .inl (G.2.1, 60, .inl (fun _ => 0)))]) (pc2 := 57) S gf_X9_29 pf_X9_9 0 rfl rfl rfl (Nat.le_of_ble_eq_true rfl) rfl dX9_init_54 rfl ?_
  refine v_aload_n (pc2 := 58) S 0 dX9_init_57 rfl rfl rfl ?_
  refine v_bipush (v := -4) (pc2 := 60) S dX9_init_58 (by decide) rfl ?_
  refine v_put (ws2 := [(a0, .inr (9, [.ref q1, .ref q2, .ref q3, .int 0, .ref q4, .int 0, .ref q5, .int 0, .int (-4 : Int32), .int (-4 : Int32), .int (-4 : Int32), .int 0, .null, .int 0, .null, .null, .int 0])), (q1, .inl (G.2.1, 85, .inl (fun _ => 0))), (q2, .inl (G.2.1, 85, .inl (fun _ => 0))), (q3, .inl (G.2.1, 340, .inl (fun _ => 0))), (q4, .inl (G.2.1, 85, .inl (fun _ => 0))), (q5, .inl (G.2.1, 60, .inl (fun _ => 0)))]) (pc2 := 63) S gf_X9_32 pf_X9_10 0 rfl rfl rfl (Nat.le_of_ble_eq_true rfl) rfl dX9_init_60 rfl ?_
  refine v_aload_n (pc2 := 64) S 0 dX9_init_63 rfl rfl rfl ?_
  refine v_bipush (v := 124) (pc2 := 66) S dX9_init_64 (by decide) rfl ?_
  refine v_newa (pc2 := 68) (N := 124) S u_124 (by decide) (by decide) (Nat.le_of_ble_eq_true rfl) (Nat.le_of_ble_eq_true rfl) (Nat.le_of_ble_eq_true rfl) dX9_init_66 rfl (fun q6 => ?_)
  refine v_to ([(a0, .inr (9, [.ref q1, .ref q2, .ref q3, .int 0, .ref q4, .int 0, .ref q5, .int 0, .int (-4 : Int32), .int (-4 : Int32), .int (-4 : Int32), .int 0, .null, .int 0, .null, .null, .int 0])), (q1, .inl (G.2.1, 85, .inl (fun _ => 0))), (q2, .inl (G.2.1, 85, .inl (fun _ => 0))), (q3, .inl (G.2.1, 340, .inl (fun _ => 0))), (q4, .inl (G.2.1, 85, .inl (fun _ => 0))), (q5, .inl (G.2.1, 60, .inl (fun _ => 0))), (q6, .inl (G.2.1, 124, .inl (fun _ => 0)))]) 68 [(0, .ref a0)] _ [.ref q6, .ref a0] rfl rfl rfl rfl ?_
  refine v_putF (ws2 := [(a0, .inr (9, [.ref q1, .ref q2, .ref q3, .int 0, .ref q4, .int 0, .ref q5, .int 0, .int (-4 : Int32), .int (-4 : Int32), .int (-4 : Int32), .int 0, .ref q6, .int 0, .null, .null, .int 0])), (q1, .inl (G.2.1, 85, .inl (fun _ => 0))), (q2, .inl (G.2.1, 85, .inl (fun _ => 0))), (q3, .inl (G.2.1, 340, .inl (fun _ => 0))), (q4, .inl (G.2.1, 85, .inl (fun _ => 0))), (q5, .inl (G.2.1, 60, .inl (fun _ => 0))), (q6, .inl (G.2.1, 124, .inl (fun _ => 0)))]) (pc2 := 71) S (show meth.name = "<init>" from hname) gf_X9_35 pf_X9_12 rfl 0 rfl rfl rfl (Nat.le_of_ble_eq_true rfl) rfl dX9_init_68 rfl ?_
  refine v_aload_n (pc2 := 72) S 0 dX9_init_71 rfl rfl rfl ?_
  refine v_sipush (v := 6144) (pc2 := 75) S dX9_init_72 (by decide) rfl ?_
  refine v_newa (pc2 := 77) (N := 6144) S u_124 (by decide) (by decide) (Nat.le_of_ble_eq_true rfl) (Nat.le_of_ble_eq_true rfl) (Nat.le_of_ble_eq_true rfl) dX9_init_75 rfl (fun q7 => ?_)
  refine v_to ([(a0, .inr (9, [.ref q1, .ref q2, .ref q3, .int 0, .ref q4, .int 0, .ref q5, .int 0, .int (-4 : Int32), .int (-4 : Int32), .int (-4 : Int32), .int 0, .ref q6, .int 0, .null, .null, .int 0])), (q1, .inl (G.2.1, 85, .inl (fun _ => 0))), (q2, .inl (G.2.1, 85, .inl (fun _ => 0))), (q3, .inl (G.2.1, 340, .inl (fun _ => 0))), (q4, .inl (G.2.1, 85, .inl (fun _ => 0))), (q5, .inl (G.2.1, 60, .inl (fun _ => 0))), (q6, .inl (G.2.1, 124, .inl (fun _ => 0))), (q7, .inl (G.2.1, 6144, .inl (fun _ => 0)))]) 77 [(0, .ref a0)] _ [.ref q7, .ref a0] rfl rfl rfl rfl ?_
  refine v_putF (ws2 := [(a0, .inr (9, [.ref q1, .ref q2, .ref q3, .int 0, .ref q4, .int 0, .ref q5, .int 0, .int (-4 : Int32), .int (-4 : Int32), .int (-4 : Int32), .int 0, .ref q6, .int 0, .ref q7, .null, .int 0])), (q1, .inl (G.2.1, 85, .inl (fun _ => 0))), (q2, .inl (G.2.1, 85, .inl (fun _ => 0))), (q3, .inl (G.2.1, 340, .inl (fun _ => 0))), (q4, .inl (G.2.1, 85, .inl (fun _ => 0))), (q5, .inl (G.2.1, 60, .inl (fun _ => 0))), (q6, .inl (G.2.1, 124, .inl (fun _ => 0))), (q7, .inl (G.2.1, 6144, .inl (fun _ => 0)))]) (pc2 := 80) S (show meth.name = "<init>" from hname) gf_X9_38 pf_X9_14 rfl 0 rfl rfl rfl (Nat.le_of_ble_eq_true rfl) rfl dX9_init_77 rfl ?_
  refine v_aload_n (pc2 := 81) S 0 dX9_init_80 rfl rfl rfl ?_
  refine v_sipush (v := 6144) (pc2 := 84) S dX9_init_81 (by decide) rfl ?_
  refine v_newa (pc2 := 86) (N := 6144) S u_124 (by decide) (by decide) (Nat.le_of_ble_eq_true rfl) (Nat.le_of_ble_eq_true rfl) (Nat.le_of_ble_eq_true rfl) dX9_init_84 rfl (fun q8 => ?_)
  refine v_to ([(a0, .inr (9, [.ref q1, .ref q2, .ref q3, .int 0, .ref q4, .int 0, .ref q5, .int 0, .int (-4 : Int32), .int (-4 : Int32), .int (-4 : Int32), .int 0, .ref q6, .int 0, .ref q7, .null, .int 0])), (q1, .inl (G.2.1, 85, .inl (fun _ => 0))), (q2, .inl (G.2.1, 85, .inl (fun _ => 0))), (q3, .inl (G.2.1, 340, .inl (fun _ => 0))), (q4, .inl (G.2.1, 85, .inl (fun _ => 0))), (q5, .inl (G.2.1, 60, .inl (fun _ => 0))), (q6, .inl (G.2.1, 124, .inl (fun _ => 0))), (q7, .inl (G.2.1, 6144, .inl (fun _ => 0))), (q8, .inl (G.2.1, 6144, .inl (fun _ => 0)))]) 86 [(0, .ref a0)] _ [.ref q8, .ref a0] rfl rfl rfl rfl ?_
  refine v_putF (ws2 := [(a0, .inr (9, [.ref q1, .ref q2, .ref q3, .int 0, .ref q4, .int 0, .ref q5, .int 0, .int (-4 : Int32), .int (-4 : Int32), .int (-4 : Int32), .int 0, .ref q6, .int 0, .ref q7, .ref q8, .int 0])), (q1, .inl (G.2.1, 85, .inl (fun _ => 0))), (q2, .inl (G.2.1, 85, .inl (fun _ => 0))), (q3, .inl (G.2.1, 340, .inl (fun _ => 0))), (q4, .inl (G.2.1, 85, .inl (fun _ => 0))), (q5, .inl (G.2.1, 60, .inl (fun _ => 0))), (q6, .inl (G.2.1, 124, .inl (fun _ => 0))), (q7, .inl (G.2.1, 6144, .inl (fun _ => 0))), (q8, .inl (G.2.1, 6144, .inl (fun _ => 0)))]) (pc2 := 89) S (show meth.name = "<init>" from hname) gf_X9_41 pf_X9_15 rfl 0 rfl rfl rfl (Nat.le_of_ble_eq_true rfl) rfl dX9_init_86 rfl ?_
  refine v_to (wMod G (a0, q1, q2, q3, q4, q5, q6, q7, q8) ((fun _ => 0), (fun _ => 0), (fun _ => 0), 0, (fun _ => 0), 0, (fun _ => 0), 0, (-4 : Int32), (-4 : Int32), (-4 : Int32), 0, (fun _ => 0), 0, (fun _ => 0), (fun _ => 0), 0)) 89 [(0, .ref (((a0, q1, q2, q3, q4, q5, q6, q7, q8)).1))] _ [] rfl rfl rfl rfl ?_
  refine v_aload_n (pc2 := 90) S 0 dX9_init_89 rfl rfl rfl ?_
  refine v_get (v := .ref (((a0, q1, q2, q3, q4, q5, q6, q7, q8)).2.1)) (pc2 := 93) S gf_X9_7 0 rfl rfl dX9_init_90 rfl ?_
  refine v_iconst (v := 0) (pc2 := 94) S dX9_init_93 (by decide) rfl ?_
  refine v_iconst (v := 3) (pc2 := 95) S dX9_init_94 (by decide) rfl ?_
  obtain ⟨h9, hw⟩ := hw
  obtain ⟨g10, eg10⟩ : ∃ y : Nat → Int32, y = upd (fun _ => 0) (0 : Int32).toNatClampNeg (3 : Int32) := ⟨_, rfl⟩
  have hw := hw g10 eg10
  refine v_iast (ws2 := wMod G (a0, q1, q2, q3, q4, q5, q6, q7, q8) (g10, (fun _ => 0), (fun _ => 0), 0, (fun _ => 0), 0, (fun _ => 0), 0, (-4 : Int32), (-4 : Int32), (-4 : Int32), 0, (fun _ => 0), 0, (fun _ => 0), (fun _ => 0), 0)) (pc2 := 96) S 1 rfl h9 (by rw [eg10] <;> rfl) dX9_init_95 rfl ?_
  refine v_iconst (v := 0) (pc2 := 97) S dX9_init_96 (by decide) rfl ?_
  refine v_istore_n (lv2 := [(0, .ref (((a0, q1, q2, q3, q4, q5, q6, q7, q8)).1)), (1, .int (0 : Int32))]) (pc2 := 98) S dX9_init_97 rfl (by decide) [1, 0] rfl rfl ?_
  obtain ⟨kk, hw⟩ := hw
  exact L98 q1 q2 q3 q4 q5 q6 q7 q8 kk (0 : Int32) (g10, (fun _ => 0), (fun _ => 0), 0, (fun _ => 0), 0, (fun _ => 0), 0, (-4 : Int32), (-4 : Int32), (-4 : Int32), 0, (fun _ => 0), 0, (fun _ => 0), (fun _ => 0), 0) hw
set_option maxHeartbeats 4000000 in
set_option maxRecDepth 100000 in
theorem c_X9_in (l : Launch) (G : GG) (i0 : Int32) (i1 : Int32) (i2 : Int32) (Q : Int32 → Prop) (hw : wp_X9_in i0 i1 i2 Q) : Con l G yX9_in cX9_in 3 (some .boolean) { frames := 0, cells := 0, slots := 0, locals := 0 } [.int i0, .int i1, .int i2] ([]) (PB (fun _ : Unit => []) (fun r _ => Q r)) 0 0 := by
  refine con_of RX9 rfl (by decide) [(0, .int i0), (1, .int i1), (2, .int i2)] rfl (Nat.le_of_ble_eq_true rfl) ?_
  intro p e s m args below meth c S hname
  refine v_iload_n (pc2 := 1) S 0 dX9_in_0 rfl rfl rfl ?_
  refine v_iload_n (pc2 := 2) S 1 dX9_in_1 rfl rfl rfl ?_
  refine v_icmp_lt (pc2 := 5) (tgt := 14) S dX9_in_2 (by decide) rfl (fun c1 => ?_) (fun c1 => ?_)
  · have hw := hw.1 c1
    refine v_iconst (v := 0) (pc2 := 15) S dX9_in_14 (by decide) rfl ?_
    exact v_zret S (by decide) ⟨(0 : Int32), (), rfl, (by decide), rfl, hw⟩ dX9_in_15
  · have hw := hw.2 c1
    refine v_iload_n (pc2 := 6) S 0 dX9_in_5 rfl rfl rfl ?_
    refine v_iload_n (pc2 := 7) S 2 dX9_in_6 rfl rfl rfl ?_
    refine v_icmp_gt (pc2 := 10) (tgt := 14) S dX9_in_7 (by decide) rfl (fun c2 => ?_) (fun c2 => ?_)
    · have hw := hw.1 c2
      refine v_iconst (v := 0) (pc2 := 15) S dX9_in_14 (by decide) rfl ?_
      exact v_zret S (by decide) ⟨(0 : Int32), (), rfl, (by decide), rfl, hw⟩ dX9_in_15
    · have hw := hw.2 c2
      refine v_iconst (v := 1) (pc2 := 11) S dX9_in_10 (by decide) rfl ?_
      refine v_goto (tgt := 15) S dX9_in_11 (by decide) ?_
      exact v_zret S (by decide) ⟨(1 : Int32), (), rfl, (by decide), rfl, hw⟩ dX9_in_15
set_option maxHeartbeats 4000000 in
set_option maxRecDepth 100000 in
theorem c_X9_isDoor (l : Launch) (G : GG) (i0 : Int32) (Q : Int32 → Prop) (hw : wp_X9_isDoor i0 Q) : Con l G yX9_isDoor cX9_isDoor 1 (some .boolean) { frames := 1, cells := 0, slots := 0, locals := 22 } [.int i0] ([]) (PB (fun _ : Unit => []) (fun r _ => Q r)) 0 0 := by
  refine con_of RX9 rfl (by decide) [(0, .int i0)] rfl (Nat.le_of_ble_eq_true rfl) ?_
  intro p e s m args below meth c S hname
  refine v_iload_n (pc2 := 1) S 0 dX9_isDoor_0 rfl rfl rfl ?_
  refine v_iconst (v := 0) (pc2 := 2) S dX9_isDoor_1 (by decide) rfl ?_
  refine v_bipush (v := 9) (pc2 := 4) S dX9_isDoor_2 (by decide) rfl ?_
  refine v_callS (pc2 := 7) (As := [.int i0, .int (0 : Int32), .int (9 : Int32)]) (rest := []) S (c_X9_in l G i0 (0 : Int32) (9 : Int32) _ hw) mf_X9_in u_837 u_838 rfl rfl ⟨rfl, rfl⟩ ⟨Nat.le_of_ble_eq_true rfl, Nat.le_of_ble_eq_true rfl⟩ ⟨Nat.le_of_ble_eq_true rfl, Nat.le_of_ble_eq_true rfl⟩ (Nat.le_of_ble_eq_true rfl) dX9_isDoor_4 (frM [] [] _) rfl (pb (fun r1 u2 br1 hw => ?_))
  refine v_to ([]) 7 [(0, .int i0)] _ [.int r1] rfl rfl rfl rfl ?_
  exact v_zret S br1 ⟨r1, (), rfl, br1, rfl, hw⟩ dX9_isDoor_7
set_option maxHeartbeats 4000000 in
set_option maxRecDepth 100000 in
theorem c_X9_isHall (l : Launch) (G : GG) (i0 : Int32) (Q : Int32 → Prop) (hw : wp_X9_isHall i0 Q) : Con l G yX9_isHall cX9_isHall 1 (some .boolean) { frames := 1, cells := 0, slots := 0, locals := 22 } [.int i0] ([]) (PB (fun _ : Unit => []) (fun r _ => Q r)) 0 0 := by
  refine con_of RX9 rfl (by decide) [(0, .int i0)] rfl (Nat.le_of_ble_eq_true rfl) ?_
  intro p e s m args below meth c S hname
  refine v_iload_n (pc2 := 1) S 0 dX9_isHall_0 rfl rfl rfl ?_
  refine v_iconst (v := 0) (pc2 := 2) S dX9_isHall_1 (by decide) rfl ?_
  refine v_iconst (v := 5) (pc2 := 3) S dX9_isHall_2 (by decide) rfl ?_
  refine v_callS (pc2 := 6) (As := [.int i0, .int (0 : Int32), .int (5 : Int32)]) (rest := []) S (c_X9_in l G i0 (0 : Int32) (5 : Int32) _ hw) mf_X9_in u_837 u_838 rfl rfl ⟨rfl, rfl⟩ ⟨Nat.le_of_ble_eq_true rfl, Nat.le_of_ble_eq_true rfl⟩ ⟨Nat.le_of_ble_eq_true rfl, Nat.le_of_ble_eq_true rfl⟩ (Nat.le_of_ble_eq_true rfl) dX9_isHall_3 (frM [] [] _) rfl (pb (fun r1 u2 br1 hw => ?_))
  refine v_to ([]) 6 [(0, .int i0)] _ [.int r1] rfl rfl rfl rfl ?_
  exact v_zret S br1 ⟨r1, (), rfl, br1, rfl, hw⟩ dX9_isHall_6
set_option maxHeartbeats 4000000 in
set_option maxRecDepth 100000 in
theorem c_X9_isGuest (l : Launch) (G : GG) (i0 : Int32) (Q : Int32 → Prop) (hw : wp_X9_isGuest i0 Q) : Con l G yX9_isGuest cX9_isGuest 1 (some .boolean) { frames := 1, cells := 0, slots := 0, locals := 22 } [.int i0] ([]) (PB (fun _ : Unit => []) (fun r _ => Q r)) 0 0 := by
  refine con_of RX9 rfl (by decide) [(0, .int i0)] rfl (Nat.le_of_ble_eq_true rfl) ?_
  intro p e s m args below meth c S hname
  refine v_iload_n (pc2 := 1) S 0 dX9_isGuest_0 rfl rfl rfl ?_
  refine v_iconst (v := 0) (pc2 := 2) S dX9_isGuest_1 (by decide) rfl ?_
  refine v_iconst (v := 2) (pc2 := 3) S dX9_isGuest_2 (by decide) rfl ?_
  refine v_callS (pc2 := 6) (As := [.int i0, .int (0 : Int32), .int (2 : Int32)]) (rest := []) S (c_X9_in l G i0 (0 : Int32) (2 : Int32) _ hw) mf_X9_in u_837 u_838 rfl rfl ⟨rfl, rfl⟩ ⟨Nat.le_of_ble_eq_true rfl, Nat.le_of_ble_eq_true rfl⟩ ⟨Nat.le_of_ble_eq_true rfl, Nat.le_of_ble_eq_true rfl⟩ (Nat.le_of_ble_eq_true rfl) dX9_isGuest_3 (frM [] [] _) rfl (pb (fun r1 u2 br1 hw => ?_))
  refine v_to ([]) 6 [(0, .int i0)] _ [.int r1] rfl rfl rfl rfl ?_
  exact v_zret S br1 ⟨r1, (), rfl, br1, rfl, hw⟩ dX9_isGuest_6
set_option maxHeartbeats 4000000 in
set_option maxRecDepth 100000 in
theorem c_X9_of (l : Launch) (G : GG) (a0 : ModA) (v0 : ModV) (i0 : Int32) (i1 : Int32) (Q : Int32 → Prop) (hw : wp_X9_of v0 i0 i1 Q) : Con l G yX9_of cX9_of 3 (some .int) { frames := 0, cells := 0, slots := 0, locals := 0 } [.ref a0.1, .int i0, .int i1] (wMod G a0 v0) (PI (fun _ : Unit => wMod G a0 v0) (fun r _ => Q r)) 0 0 := by
  refine con_of RX9 rfl (by decide) [(0, .ref a0.1), (1, .int i0), (2, .int i1)] rfl (Nat.le_of_ble_eq_true rfl) ?_
  intro p e s m args below meth c S hname
  refine v_aload_n (pc2 := 1) S 0 dX9_of_0 rfl rfl rfl ?_
  refine v_get (v := .ref a0.2.1) (pc2 := 4) S gf_X9_7 0 rfl rfl dX9_of_1 rfl ?_
  refine v_bipush (v := 6) (pc2 := 6) S dX9_of_4 (by decide) rfl ?_
  refine v_bipush (v := 7) (pc2 := 8) S dX9_of_6 (by decide) rfl ?_
  refine v_iload_n (pc2 := 9) S 1 dX9_of_8 rfl rfl rfl ?_
  refine v_imul (pc2 := 10) S dX9_of_9 rfl ?_
  refine v_iadd (pc2 := 11) S dX9_of_10 rfl ?_
  refine v_iload_n (pc2 := 12) S 2 dX9_of_11 rfl rfl rfl ?_
  refine v_iadd (pc2 := 13) S dX9_of_12 rfl ?_
  obtain ⟨h1, hw⟩ := hw
  refine v_iald (pc2 := 14) S 1 rfl h1 dX9_of_13 rfl ?_
  exact v_iret S ⟨v0.1 (((6 : Int32) + ((7 : Int32) * i0)) + i1).toNatClampNeg, (), rfl, rfl, hw⟩ dX9_of_14
set_option maxHeartbeats 4000000 in
set_option maxRecDepth 100000 in
theorem c_X9_ofGuest (l : Launch) (G : GG) (a0 : ModA) (v0 : ModV) (i0 : Int32) (i1 : Int32) (Q : Int32 → Prop) (hw : wp_X9_ofGuest v0 i0 i1 Q) : Con l G yX9_ofGuest cX9_ofGuest 3 (some .int) { frames := 0, cells := 0, slots := 0, locals := 0 } [.ref a0.1, .int i0, .int i1] (wMod G a0 v0) (PI (fun _ : Unit => wMod G a0 v0) (fun r _ => Q r)) 0 0 := by
  refine con_of RX9 rfl (by decide) [(0, .ref a0.1), (1, .int i0), (2, .int i1)] rfl (Nat.le_of_ble_eq_true rfl) ?_
  intro p e s m args below meth c S hname
  refine v_aload_n (pc2 := 1) S 0 dX9_ofGuest_0 rfl rfl rfl ?_
  refine v_get (v := .ref a0.2.1) (pc2 := 4) S gf_X9_7 0 rfl rfl dX9_ofGuest_1 rfl ?_
  refine v_bipush (v := 76) (pc2 := 6) S dX9_ofGuest_4 (by decide) rfl ?_
  refine v_iconst (v := 3) (pc2 := 7) S dX9_ofGuest_6 (by decide) rfl ?_
  refine v_iload_n (pc2 := 8) S 1 dX9_ofGuest_7 rfl rfl rfl ?_
  refine v_imul (pc2 := 9) S dX9_ofGuest_8 rfl ?_
  refine v_iadd (pc2 := 10) S dX9_ofGuest_9 rfl ?_
  refine v_iload_n (pc2 := 11) S 2 dX9_ofGuest_10 rfl rfl rfl ?_
  refine v_iadd (pc2 := 12) S dX9_ofGuest_11 rfl ?_
  obtain ⟨h1, hw⟩ := hw
  refine v_iald (pc2 := 13) S 1 rfl h1 dX9_ofGuest_12 rfl ?_
  exact v_iret S ⟨v0.1 (((76 : Int32) + ((3 : Int32) * i0)) + i1).toNatClampNeg, (), rfl, rfl, hw⟩ dX9_ofGuest_13
set_option maxHeartbeats 4000000 in
set_option maxRecDepth 100000 in
theorem c_X9_isOpen (l : Launch) (G : GG) (a0 : ModA) (v0 : ModV) (i0 : Int32) (Q : Int32 → Prop) (hw : wp_X9_isOpen v0 i0 Q) : Con l G yX9_isOpen cX9_isOpen 2 (some .boolean) { frames := 1, cells := 0, slots := 0, locals := 22 } [.ref a0.1, .int i0] (wMod G a0 v0) (PB (fun _ : Unit => wMod G a0 v0) (fun r _ => Q r)) 0 0 := by
  refine con_of RX9 rfl (by decide) [(0, .ref a0.1), (1, .int i0)] rfl (Nat.le_of_ble_eq_true rfl) ?_
  intro p e s m args below meth c S hname
  refine v_aload_n (pc2 := 1) S 0 dX9_isOpen_0 rfl rfl rfl ?_
  refine v_iload_n (pc2 := 2) S 1 dX9_isOpen_1 rfl rfl rfl ?_
  refine v_iconst (v := 0) (pc2 := 3) S dX9_isOpen_2 (by decide) rfl ?_
  refine v_callV (pc2 := 6) (As := [.int i0, .int (0 : Int32)]) (rest := []) S (c_X9_of l G a0 v0 i0 (0 : Int32) _ hw) mf_X9_of u_818 u_820 u_18 0 9 rfl rfl rfl rfl ⟨rfl, rfl⟩ ⟨Nat.le_of_ble_eq_true rfl, Nat.le_of_ble_eq_true rfl⟩ ⟨Nat.le_of_ble_eq_true rfl, Nat.le_of_ble_eq_true rfl⟩ (Nat.le_of_ble_eq_true rfl) dX9_isOpen_3 (frW _) rfl (pi (fun r1 u2 hw => ?_))
  refine v_to (wMod G a0 v0) 6 [(0, .ref a0.1), (1, .int i0)] _ [.int r1] rfl rfl rfl rfl ?_
  refine v_iconst (v := 1) (pc2 := 7) S dX9_isOpen_6 (by decide) rfl ?_
  refine v_icmp_ne (pc2 := 10) (tgt := 14) S dX9_isOpen_7 (by decide) rfl (fun c3 => ?_) (fun c3 => ?_)
  · have hw := hw.1 c3
    refine v_iconst (v := 0) (pc2 := 15) S dX9_isOpen_14 (by decide) rfl ?_
    exact v_zret S (by decide) ⟨(0 : Int32), (), rfl, (by decide), rfl, hw⟩ dX9_isOpen_15
  · have hw := hw.2 c3
    refine v_iconst (v := 1) (pc2 := 11) S dX9_isOpen_10 (by decide) rfl ?_
    refine v_goto (tgt := 15) S dX9_isOpen_11 (by decide) ?_
    exact v_zret S (by decide) ⟨(1 : Int32), (), rfl, (by decide), rfl, hw⟩ dX9_isOpen_15
set_option maxHeartbeats 4000000 in
set_option maxRecDepth 100000 in
theorem c_X9_joins (l : Launch) (G : GG) (a0 : ModA) (v0 : ModV) (i0 : Int32) (i1 : Int32) (Q : Int32 → Prop) (hw : wp_X9_joins v0 i0 i1 Q) : Con l G yX9_joins cX9_joins 3 (some .boolean) { frames := 1, cells := 0, slots := 0, locals := 22 } [.ref a0.1, .int i0, .int i1] (wMod G a0 v0) (PB (fun _ : Unit => wMod G a0 v0) (fun r _ => Q r)) 0 0 := by
  refine con_of RX9 rfl (by decide) [(0, .ref a0.1), (1, .int i0), (2, .int i1)] rfl (Nat.le_of_ble_eq_true rfl) ?_
  intro p e s m args below meth c S hname
  refine v_aload_n (pc2 := 1) S 0 dX9_joins_0 rfl rfl rfl ?_
  refine v_iload_n (pc2 := 2) S 1 dX9_joins_1 rfl rfl rfl ?_
  refine v_iconst (v := 1) (pc2 := 3) S dX9_joins_2 (by decide) rfl ?_
  refine v_callV (pc2 := 6) (As := [.int i0, .int (1 : Int32)]) (rest := []) S (c_X9_of l G a0 v0 i0 (1 : Int32) _ hw) mf_X9_of u_818 u_820 u_18 0 9 rfl rfl rfl rfl ⟨rfl, rfl⟩ ⟨Nat.le_of_ble_eq_true rfl, Nat.le_of_ble_eq_true rfl⟩ ⟨Nat.le_of_ble_eq_true rfl, Nat.le_of_ble_eq_true rfl⟩ (Nat.le_of_ble_eq_true rfl) dX9_joins_3 (frW _) rfl (pi (fun r1 u2 hw => ?_))
  refine v_to (wMod G a0 v0) 6 [(0, .ref a0.1), (1, .int i0), (2, .int i1)] _ [.int r1] rfl rfl rfl rfl ?_
  refine v_iload_n (pc2 := 7) S 2 dX9_joins_6 rfl rfl rfl ?_
  refine v_icmp_eq (pc2 := 10) (tgt := 20) S dX9_joins_7 (by decide) rfl (fun c3 => ?_) (fun c3 => ?_)
  · have hw := hw.1 c3
    refine v_iconst (v := 1) (pc2 := 21) S dX9_joins_20 (by decide) rfl ?_
    refine v_goto (tgt := 25) S dX9_joins_21 (by decide) ?_
    exact v_zret S (by decide) ⟨(1 : Int32), (), rfl, (by decide), rfl, hw⟩ dX9_joins_25
  · have hw := hw.2 c3
    refine v_aload_n (pc2 := 11) S 0 dX9_joins_10 rfl rfl rfl ?_
    refine v_iload_n (pc2 := 12) S 1 dX9_joins_11 rfl rfl rfl ?_
    refine v_iconst (v := 2) (pc2 := 13) S dX9_joins_12 (by decide) rfl ?_
    refine v_callV (pc2 := 16) (As := [.int i0, .int (2 : Int32)]) (rest := []) S (c_X9_of l G a0 v0 i0 (2 : Int32) _ hw) mf_X9_of u_818 u_820 u_18 0 9 rfl rfl rfl rfl ⟨rfl, rfl⟩ ⟨Nat.le_of_ble_eq_true rfl, Nat.le_of_ble_eq_true rfl⟩ ⟨Nat.le_of_ble_eq_true rfl, Nat.le_of_ble_eq_true rfl⟩ (Nat.le_of_ble_eq_true rfl) dX9_joins_13 (frW _) rfl (pi (fun r4 u5 hw => ?_))
    refine v_to (wMod G a0 v0) 16 [(0, .ref a0.1), (1, .int i0), (2, .int i1)] _ [.int r4] rfl rfl rfl rfl ?_
    refine v_iload_n (pc2 := 17) S 2 dX9_joins_16 rfl rfl rfl ?_
    refine v_icmp_ne (pc2 := 20) (tgt := 24) S dX9_joins_17 (by decide) rfl (fun c6 => ?_) (fun c6 => ?_)
    · have hw := hw.1 c6
      refine v_iconst (v := 0) (pc2 := 25) S dX9_joins_24 (by decide) rfl ?_
      exact v_zret S (by decide) ⟨(0 : Int32), (), rfl, (by decide), rfl, hw⟩ dX9_joins_25
    · have hw := hw.2 c6
      refine v_iconst (v := 1) (pc2 := 21) S dX9_joins_20 (by decide) rfl ?_
      refine v_goto (tgt := 25) S dX9_joins_21 (by decide) ?_
      exact v_zret S (by decide) ⟨(1 : Int32), (), rfl, (by decide), rfl, hw⟩ dX9_joins_25
set_option maxHeartbeats 4000000 in
set_option maxRecDepth 100000 in
theorem c_X9_goesTo (l : Launch) (G : GG) (a0 : ModA) (v0 : ModV) (i0 : Int32) (i1 : Int32) (Q : Int32 → Prop) (hw : wp_X9_goesTo v0 i0 i1 Q) : Con l G yX9_goesTo cX9_goesTo 3 (some .boolean) { frames := 1, cells := 0, slots := 0, locals := 22 } [.ref a0.1, .int i0, .int i1] (wMod G a0 v0) (PB (fun _ : Unit => wMod G a0 v0) (fun r _ => Q r)) 0 0 := by
  refine con_of RX9 rfl (by decide) [(0, .ref a0.1), (1, .int i0), (2, .int i1)] rfl (Nat.le_of_ble_eq_true rfl) ?_
  intro p e s m args below meth c S hname
  refine v_aload_n (pc2 := 1) S 0 dX9_goesTo_0 rfl rfl rfl ?_
  refine v_iload_n (pc2 := 2) S 1 dX9_goesTo_1 rfl rfl rfl ?_
  refine v_iconst (v := 3) (pc2 := 3) S dX9_goesTo_2 (by decide) rfl ?_
  refine v_callV (pc2 := 6) (As := [.int i0, .int (3 : Int32)]) (rest := []) S (c_X9_of l G a0 v0 i0 (3 : Int32) _ hw) mf_X9_of u_818 u_820 u_18 0 9 rfl rfl rfl rfl ⟨rfl, rfl⟩ ⟨Nat.le_of_ble_eq_true rfl, Nat.le_of_ble_eq_true rfl⟩ ⟨Nat.le_of_ble_eq_true rfl, Nat.le_of_ble_eq_true rfl⟩ (Nat.le_of_ble_eq_true rfl) dX9_goesTo_3 (frW _) rfl (pi (fun r1 u2 hw => ?_))
  refine v_to (wMod G a0 v0) 6 [(0, .ref a0.1), (1, .int i0), (2, .int i1)] _ [.int r1] rfl rfl rfl rfl ?_
  refine v_iload_n (pc2 := 7) S 2 dX9_goesTo_6 rfl rfl rfl ?_
  refine v_icmp_eq (pc2 := 10) (tgt := 20) S dX9_goesTo_7 (by decide) rfl (fun c3 => ?_) (fun c3 => ?_)
  · have hw := hw.1 c3
    refine v_iconst (v := 1) (pc2 := 21) S dX9_goesTo_20 (by decide) rfl ?_
    refine v_goto (tgt := 25) S dX9_goesTo_21 (by decide) ?_
    exact v_zret S (by decide) ⟨(1 : Int32), (), rfl, (by decide), rfl, hw⟩ dX9_goesTo_25
  · have hw := hw.2 c3
    refine v_aload_n (pc2 := 11) S 0 dX9_goesTo_10 rfl rfl rfl ?_
    refine v_iload_n (pc2 := 12) S 1 dX9_goesTo_11 rfl rfl rfl ?_
    refine v_iconst (v := 4) (pc2 := 13) S dX9_goesTo_12 (by decide) rfl ?_
    refine v_callV (pc2 := 16) (As := [.int i0, .int (4 : Int32)]) (rest := []) S (c_X9_of l G a0 v0 i0 (4 : Int32) _ hw) mf_X9_of u_818 u_820 u_18 0 9 rfl rfl rfl rfl ⟨rfl, rfl⟩ ⟨Nat.le_of_ble_eq_true rfl, Nat.le_of_ble_eq_true rfl⟩ ⟨Nat.le_of_ble_eq_true rfl, Nat.le_of_ble_eq_true rfl⟩ (Nat.le_of_ble_eq_true rfl) dX9_goesTo_13 (frW _) rfl (pi (fun r4 u5 hw => ?_))
    refine v_to (wMod G a0 v0) 16 [(0, .ref a0.1), (1, .int i0), (2, .int i1)] _ [.int r4] rfl rfl rfl rfl ?_
    refine v_iload_n (pc2 := 17) S 2 dX9_goesTo_16 rfl rfl rfl ?_
    refine v_icmp_ne (pc2 := 20) (tgt := 24) S dX9_goesTo_17 (by decide) rfl (fun c6 => ?_) (fun c6 => ?_)
    · have hw := hw.1 c6
      refine v_iconst (v := 0) (pc2 := 25) S dX9_goesTo_24 (by decide) rfl ?_
      exact v_zret S (by decide) ⟨(0 : Int32), (), rfl, (by decide), rfl, hw⟩ dX9_goesTo_25
    · have hw := hw.2 c6
      refine v_iconst (v := 1) (pc2 := 21) S dX9_goesTo_20 (by decide) rfl ?_
      refine v_goto (tgt := 25) S dX9_goesTo_21 (by decide) ?_
      exact v_zret S (by decide) ⟨(1 : Int32), (), rfl, (by decide), rfl, hw⟩ dX9_goesTo_25
set_option maxHeartbeats 4000000 in
set_option maxRecDepth 100000 in
theorem c_X9_copyState (l : Launch) (G : GG) (N0 : Nat) (N1 : Nat) (a0 : Nat) (a1 : Nat) (v0 : (Nat → Int32)) (v1 : (Nat → Int32)) (i0 : Int32) (i1 : Int32) (Q : (Nat → Int32) → Prop) (hw : wp_X9_copyState N0 N1 v0 v1 i0 i1 Q) : Con l G yX9_copyState cX9_copyState 5 none { frames := 0, cells := 0, slots := 0, locals := 0 } [.ref a0, .int i0, .ref a1, .int i1] ([(a0, .inl (G.2.1, N0, .inl v0))] ++ [(a1, .inl (G.2.1, N1, .inl v1))]) (PV (fun u : (Nat → Int32) => [(a0, .inl (G.2.1, N0, .inl v0))] ++ [(a1, .inl (G.2.1, N1, .inl u))]) Q) 0 0 := by
  refine con_of RX9 rfl (by decide) [(0, .ref a0), (1, .int i0), (2, .ref a1), (3, .int i1)] rfl (Nat.le_of_ble_eq_true rfl) ?_
  intro p e s m args below meth c S hname
  have L3 : ∀ (x1 : Int32) (x3 : Int32) (kk : Nat) (x4 : Int32) (w1 : (Nat → Int32)), wp_X9_copyState_L3 N0 N1 v0 x1 x3 Q kk x4 w1 → V p l e { frames := 0, cells := 0, slots := 0, locals := 0 } s m args below meth c G (va_A ([(a0, .inl (G.2.1, N0, .inl v0))] ++ [(a1, .inl (G.2.1, N1, .inl v1))]) s.heap.size) 5 0 0 (MQ below (EQ G ([(a0, .inl (G.2.1, N0, .inl v0))] ++ [(a1, .inl (G.2.1, N1, .inl v1))]) s.heap.size (PV (fun u : (Nat → Int32) => [(a0, .inl (G.2.1, N0, .inl v0))] ++ [(a1, .inl (G.2.1, N1, .inl u))]) Q)) args s 0 0 (va_A ([(a0, .inl (G.2.1, N0, .inl v0))] ++ [(a1, .inl (G.2.1, N1, .inl v1))]) s.heap.size)) ([(a0, .inl (G.2.1, N0, .inl v0))] ++ [(a1, .inl (G.2.1, N1, .inl w1))]) 3 [(0, .ref a0), (1, .int x1), (2, .ref a1), (3, .int x3), (4, .int x4)] [] := by
    intro x1 x3 kk
    induction kk with
    | zero => intro x4 w1 hw; exact hw.elim
    | succ n ih =>
      intro x4 w1 hw
      refine v_iload (pc2 := 5) S 4 dX9_copyState_3 rfl rfl ?_
      refine v_bipush (v := 85) (pc2 := 7) S dX9_copyState_5 (by decide) rfl ?_
      refine v_icmp_ge (pc2 := 10) (tgt := 28) S dX9_copyState_7 (by decide) rfl (fun c1 => ?_) (fun c1 => ?_)
      · have hw := hw.1 c1
        exact v_vret S ⟨w1, rfl, rfl, hw⟩ dX9_copyState_28
      · have hw := hw.2 c1
        refine v_aload_n (pc2 := 11) S 2 dX9_copyState_10 rfl rfl rfl ?_
        refine v_iload_n (pc2 := 12) S 3 dX9_copyState_11 rfl rfl rfl ?_
        refine v_iload (pc2 := 14) S 4 dX9_copyState_12 rfl rfl ?_
        refine v_iadd (pc2 := 15) S dX9_copyState_14 rfl ?_
        refine v_aload_n (pc2 := 16) S 0 dX9_copyState_15 rfl rfl rfl ?_
        refine v_iload_n (pc2 := 17) S 1 dX9_copyState_16 rfl rfl rfl ?_
        refine v_iload (pc2 := 19) S 4 dX9_copyState_17 rfl rfl ?_
        refine v_iadd (pc2 := 20) S dX9_copyState_19 rfl ?_
        obtain ⟨h2, hw⟩ := hw
        refine v_iald (pc2 := 21) S 0 rfl h2 dX9_copyState_20 rfl ?_
        obtain ⟨h3, hw⟩ := hw
        obtain ⟨g4, eg4⟩ : ∃ y : Nat → Int32, y = upd w1 (x3 + x4).toNatClampNeg (v0 (x1 + x4).toNatClampNeg) := ⟨_, rfl⟩
        have hw := hw g4 eg4
        refine v_iast (ws2 := [(a0, .inl (G.2.1, N0, .inl v0))] ++ [(a1, .inl (G.2.1, N1, .inl g4))]) (pc2 := 22) S 1 rfl h3 (by rw [eg4] <;> rfl) dX9_copyState_21 rfl ?_
        obtain ⟨z5, ez5⟩ : ∃ y : Int32, y = x4 + (1 : Int32) := ⟨_, rfl⟩
        have hw := hw z5 ez5
        refine v_iinc (v := z5) (lv2 := [(0, .ref a0), (1, .int x1), (2, .ref a1), (3, .int x3), (4, .int z5)]) (pc2 := 25) S 4 dX9_copyState_22 rfl (by rw [ez5]; rfl) (by decide) [1, 2, 3, 4, 0] rfl rfl ?_
        refine v_goto (tgt := 3) S dX9_copyState_25 (by decide) ?_
        exact ih z5 g4 hw
  refine v_iconst (v := 0) (pc2 := 1) S dX9_copyState_0 (by decide) rfl ?_
  refine v_istore (lv2 := [(0, .ref a0), (1, .int i0), (2, .ref a1), (3, .int i1), (4, .int (0 : Int32))]) (pc2 := 3) S dX9_copyState_1 (by decide) [1, 2, 3, 4, 0] rfl rfl ?_
  obtain ⟨kk, hw⟩ := hw
  exact L3 i0 i1 kk (0 : Int32) v1 hw
set_option maxHeartbeats 4000000 in
set_option maxRecDepth 100000 in
theorem c_X9_record (l : Launch) (G : GG) (a0 : ModA) (v0 : ModV) (Q : ModV → Prop) (hw : wp_X9_record v0 Q) : Con l G yX9_record cX9_record 2 none { frames := 1, cells := 0, slots := 0, locals := 24 } [.ref a0.1] (wMod G a0 v0) (PV (fun u : ModV => wMod G a0 u) Q) 0 0 := by
  refine con_of RX9 rfl (by decide) [(0, .ref a0.1)] rfl (Nat.le_of_ble_eq_true rfl) ?_
  intro p e s m args below meth c S hname
  have B48 : ∀ (w0 : ModV), wp_X9_record_B48 w0 Q → V p l e { frames := 1, cells := 0, slots := 0, locals := 24 } s m args below meth c G (va_A (wMod G a0 v0) s.heap.size) 2 0 0 (MQ below (EQ G (wMod G a0 v0) s.heap.size (PV (fun u : ModV => wMod G a0 u) Q)) args s 0 0 (va_A (wMod G a0 v0) s.heap.size)) (wMod G a0 w0) 48 [(0, .ref a0.1)] [] := by
    intro w0 hw
    refine v_aload_n (pc2 := 49) S 0 dX9_record_48 rfl rfl rfl ?_
    refine v_get (v := .ref a0.2.1) (pc2 := 52) S gf_X9_7 0 rfl rfl dX9_record_49 rfl ?_
    refine v_iconst (v := 0) (pc2 := 53) S dX9_record_52 (by decide) rfl ?_
    refine v_aload_n (pc2 := 54) S 0 dX9_record_53 rfl rfl rfl ?_
    refine v_get (v := .ref a0.2.2.2.1) (pc2 := 57) S gf_X9_16 0 rfl rfl dX9_record_54 rfl ?_
    refine v_bipush (v := 85) (pc2 := 59) S dX9_record_57 (by decide) rfl ?_
    refine v_aload_n (pc2 := 60) S 0 dX9_record_59 rfl rfl rfl ?_
    refine v_get (v := .int w0.2.2.2.1) (pc2 := 63) S gf_X9_56 0 rfl rfl dX9_record_60 rfl ?_
    refine v_imul (pc2 := 64) S dX9_record_63 rfl ?_
    refine v_callS (pc2 := 67) (As := [.ref a0.2.1, .int (0 : Int32), .ref a0.2.2.2.1, .int ((85 : Int32) * w0.2.2.2.1)]) (rest := []) S (c_X9_copyState l G 85 340 a0.2.1 a0.2.2.2.1 w0.1 w0.2.2.1 (0 : Int32) ((85 : Int32) * w0.2.2.2.1) _ hw) mf_X9_copyState u_807 u_808 rfl rfl ⟨rfl, rfl⟩ ⟨Nat.le_of_ble_eq_true rfl, Nat.le_of_ble_eq_true rfl⟩ ⟨Nat.le_of_ble_eq_true rfl, Nat.le_of_ble_eq_true rfl⟩ (Nat.le_of_ble_eq_true rfl) dX9_record_64 (frP (Rs := ([(a0.1, .inr (9, [.ref a0.2.1, .ref a0.2.2.1, .ref a0.2.2.2.1, .int w0.2.2.2.1, .ref a0.2.2.2.2.1, .int w0.2.2.2.2.2.1, .ref a0.2.2.2.2.2.1, .int w0.2.2.2.2.2.2.2.1, .int w0.2.2.2.2.2.2.2.2.1, .int w0.2.2.2.2.2.2.2.2.2.1, .int w0.2.2.2.2.2.2.2.2.2.2.1, .int w0.2.2.2.2.2.2.2.2.2.2.2.1, .ref a0.2.2.2.2.2.2.1, .int w0.2.2.2.2.2.2.2.2.2.2.2.2.2.1, .ref a0.2.2.2.2.2.2.2.1, .ref a0.2.2.2.2.2.2.2.2, .int w0.2.2.2.2.2.2.2.2.2.2.2.2.2.2.2.2]))] : va_W) ++ (([(a0.2.2.1, .inl (G.2.1, 85, .inl w0.2.1))] : va_W) ++ (([(a0.2.2.2.2.1, .inl (G.2.1, 85, .inl w0.2.2.2.2.1))] : va_W) ++ (([(a0.2.2.2.2.2.1, .inl (G.2.1, 60, .inl w0.2.2.2.2.2.2.1))] : va_W) ++ (([(a0.2.2.2.2.2.2.1, .inl (G.2.1, 124, .inl w0.2.2.2.2.2.2.2.2.2.2.2.2.1))] : va_W) ++ (([(a0.2.2.2.2.2.2.2.1, .inl (G.2.1, 6144, .inl w0.2.2.2.2.2.2.2.2.2.2.2.2.2.2.1))] : va_W) ++ (([(a0.2.2.2.2.2.2.2.2, .inl (G.2.1, 6144, .inl w0.2.2.2.2.2.2.2.2.2.2.2.2.2.2.2.1))] : va_W)))))))) (gperm [[(a0.1, .inr (9, [.ref a0.2.1, .ref a0.2.2.1, .ref a0.2.2.2.1, .int w0.2.2.2.1, .ref a0.2.2.2.2.1, .int w0.2.2.2.2.2.1, .ref a0.2.2.2.2.2.1, .int w0.2.2.2.2.2.2.2.1, .int w0.2.2.2.2.2.2.2.2.1, .int w0.2.2.2.2.2.2.2.2.2.1, .int w0.2.2.2.2.2.2.2.2.2.2.1, .int w0.2.2.2.2.2.2.2.2.2.2.2.1, .ref a0.2.2.2.2.2.2.1, .int w0.2.2.2.2.2.2.2.2.2.2.2.2.2.1, .ref a0.2.2.2.2.2.2.2.1, .ref a0.2.2.2.2.2.2.2.2, .int w0.2.2.2.2.2.2.2.2.2.2.2.2.2.2.2.2]))], [(a0.2.1, .inl (G.2.1, 85, .inl w0.1))], [(a0.2.2.1, .inl (G.2.1, 85, .inl w0.2.1))], [(a0.2.2.2.1, .inl (G.2.1, 340, .inl w0.2.2.1))], [(a0.2.2.2.2.1, .inl (G.2.1, 85, .inl w0.2.2.2.2.1))], [(a0.2.2.2.2.2.1, .inl (G.2.1, 60, .inl w0.2.2.2.2.2.2.1))], [(a0.2.2.2.2.2.2.1, .inl (G.2.1, 124, .inl w0.2.2.2.2.2.2.2.2.2.2.2.2.1))], [(a0.2.2.2.2.2.2.2.1, .inl (G.2.1, 6144, .inl w0.2.2.2.2.2.2.2.2.2.2.2.2.2.2.1))], [(a0.2.2.2.2.2.2.2.2, .inl (G.2.1, 6144, .inl w0.2.2.2.2.2.2.2.2.2.2.2.2.2.2.2.1))]] [1, 3, 0, 2, 4, 5, 6, 7, 8] rfl)) rfl (pv (fun u3 hw => ?_))
    refine v_perm _ (gperm [[(a0.2.1, .inl (G.2.1, 85, .inl w0.1))], [(a0.2.2.2.1, .inl (G.2.1, 340, .inl u3))], [(a0.1, .inr (9, [.ref a0.2.1, .ref a0.2.2.1, .ref a0.2.2.2.1, .int w0.2.2.2.1, .ref a0.2.2.2.2.1, .int w0.2.2.2.2.2.1, .ref a0.2.2.2.2.2.1, .int w0.2.2.2.2.2.2.2.1, .int w0.2.2.2.2.2.2.2.2.1, .int w0.2.2.2.2.2.2.2.2.2.1, .int w0.2.2.2.2.2.2.2.2.2.2.1, .int w0.2.2.2.2.2.2.2.2.2.2.2.1, .ref a0.2.2.2.2.2.2.1, .int w0.2.2.2.2.2.2.2.2.2.2.2.2.2.1, .ref a0.2.2.2.2.2.2.2.1, .ref a0.2.2.2.2.2.2.2.2, .int w0.2.2.2.2.2.2.2.2.2.2.2.2.2.2.2.2]))], [(a0.2.2.1, .inl (G.2.1, 85, .inl w0.2.1))], [(a0.2.2.2.2.1, .inl (G.2.1, 85, .inl w0.2.2.2.2.1))], [(a0.2.2.2.2.2.1, .inl (G.2.1, 60, .inl w0.2.2.2.2.2.2.1))], [(a0.2.2.2.2.2.2.1, .inl (G.2.1, 124, .inl w0.2.2.2.2.2.2.2.2.2.2.2.2.1))], [(a0.2.2.2.2.2.2.2.1, .inl (G.2.1, 6144, .inl w0.2.2.2.2.2.2.2.2.2.2.2.2.2.2.1))], [(a0.2.2.2.2.2.2.2.2, .inl (G.2.1, 6144, .inl w0.2.2.2.2.2.2.2.2.2.2.2.2.2.2.2.1))]] [2, 0, 3, 1, 4, 5, 6, 7, 8] rfl) ?_
    refine v_to (wMod G a0 (w0.1, w0.2.1, u3, w0.2.2.2.1, w0.2.2.2.2.1, w0.2.2.2.2.2.1, w0.2.2.2.2.2.2.1, w0.2.2.2.2.2.2.2.1, w0.2.2.2.2.2.2.2.2.1, w0.2.2.2.2.2.2.2.2.2.1, w0.2.2.2.2.2.2.2.2.2.2.1, w0.2.2.2.2.2.2.2.2.2.2.2.1, w0.2.2.2.2.2.2.2.2.2.2.2.2.1, w0.2.2.2.2.2.2.2.2.2.2.2.2.2.1, w0.2.2.2.2.2.2.2.2.2.2.2.2.2.2.1, w0.2.2.2.2.2.2.2.2.2.2.2.2.2.2.2.1, w0.2.2.2.2.2.2.2.2.2.2.2.2.2.2.2.2)) 67 [(0, .ref a0.1)] _ [] rfl rfl rfl rfl ?_
    refine v_aload_n (pc2 := 68) S 0 dX9_record_67 rfl rfl rfl ?_
    refine v_dup (pc2 := 69) S dX9_record_68 rfl rfl ?_
    refine v_get (v := .int w0.2.2.2.1) (pc2 := 72) S gf_X9_56 0 rfl rfl dX9_record_69 rfl ?_
    refine v_iconst (v := 1) (pc2 := 73) S dX9_record_72 (by decide) rfl ?_
    refine v_iadd (pc2 := 74) S dX9_record_73 rfl ?_
    refine v_nm (fun z4 ez4 => ?_)
    have hw := hw z4 ez4
    refine v_put (ws2 := wMod G a0 (w0.1, w0.2.1, u3, z4, w0.2.2.2.2.1, w0.2.2.2.2.2.1, w0.2.2.2.2.2.2.1, w0.2.2.2.2.2.2.2.1, w0.2.2.2.2.2.2.2.2.1, w0.2.2.2.2.2.2.2.2.2.1, w0.2.2.2.2.2.2.2.2.2.2.1, w0.2.2.2.2.2.2.2.2.2.2.2.1, w0.2.2.2.2.2.2.2.2.2.2.2.2.1, w0.2.2.2.2.2.2.2.2.2.2.2.2.2.1, w0.2.2.2.2.2.2.2.2.2.2.2.2.2.2.1, w0.2.2.2.2.2.2.2.2.2.2.2.2.2.2.2.1, w0.2.2.2.2.2.2.2.2.2.2.2.2.2.2.2.2)) (pc2 := 77) S gf_X9_56 pf_X9_3 0 rfl rfl rfl (Nat.le_of_ble_eq_true rfl) rfl dX9_record_74 rfl ?_
    exact v_vret S ⟨(w0.1, w0.2.1, u3, z4, w0.2.2.2.2.1, w0.2.2.2.2.2.1, w0.2.2.2.2.2.2.1, w0.2.2.2.2.2.2.2.1, w0.2.2.2.2.2.2.2.2.1, w0.2.2.2.2.2.2.2.2.2.1, w0.2.2.2.2.2.2.2.2.2.2.1, w0.2.2.2.2.2.2.2.2.2.2.2.1, w0.2.2.2.2.2.2.2.2.2.2.2.2.1, w0.2.2.2.2.2.2.2.2.2.2.2.2.2.1, w0.2.2.2.2.2.2.2.2.2.2.2.2.2.2.1, w0.2.2.2.2.2.2.2.2.2.2.2.2.2.2.2.1, w0.2.2.2.2.2.2.2.2.2.2.2.2.2.2.2.2), rfl, rfl, hw⟩ dX9_record_77
  have L10 : ∀ (kk : Nat) (x1 : Int32) (w0 : ModV), wp_X9_record_L10 Q kk x1 w0 → V p l e { frames := 1, cells := 0, slots := 0, locals := 24 } s m args below meth c G (va_A (wMod G a0 v0) s.heap.size) 2 0 0 (MQ below (EQ G (wMod G a0 v0) s.heap.size (PV (fun u : ModV => wMod G a0 u) Q)) args s 0 0 (va_A (wMod G a0 v0) s.heap.size)) (wMod G a0 w0) 10 [(0, .ref a0.1), (1, .int x1)] [] := by
    intro kk
    induction kk with
    | zero => intro x1 w0 hw; exact hw.elim
    | succ n ih =>
      intro x1 w0 hw
      refine v_iload_n (pc2 := 11) S 1 dX9_record_10 rfl rfl rfl ?_
      refine v_sipush (v := 255) (pc2 := 14) S dX9_record_11 (by decide) rfl ?_
      refine v_icmp_ge (pc2 := 17) (tgt := 38) S dX9_record_14 (by decide) rfl (fun c5 => ?_) (fun c5 => ?_)
      · have hw := hw.1 c5
        refine v_aload_n (pc2 := 39) S 0 dX9_record_38 rfl rfl rfl ?_
        refine v_dup (pc2 := 40) S dX9_record_39 rfl rfl ?_
        refine v_get (v := .int w0.2.2.2.1) (pc2 := 43) S gf_X9_56 0 rfl rfl dX9_record_40 rfl ?_
        refine v_iconst (v := 1) (pc2 := 44) S dX9_record_43 (by decide) rfl ?_
        refine v_isub (pc2 := 45) S dX9_record_44 rfl ?_
        refine v_nm (fun z6 ez6 => ?_)
        have hw := hw z6 ez6
        refine v_put (ws2 := wMod G a0 (w0.1, w0.2.1, w0.2.2.1, z6, w0.2.2.2.2.1, w0.2.2.2.2.2.1, w0.2.2.2.2.2.2.1, w0.2.2.2.2.2.2.2.1, w0.2.2.2.2.2.2.2.2.1, w0.2.2.2.2.2.2.2.2.2.1, w0.2.2.2.2.2.2.2.2.2.2.1, w0.2.2.2.2.2.2.2.2.2.2.2.1, w0.2.2.2.2.2.2.2.2.2.2.2.2.1, w0.2.2.2.2.2.2.2.2.2.2.2.2.2.1, w0.2.2.2.2.2.2.2.2.2.2.2.2.2.2.1, w0.2.2.2.2.2.2.2.2.2.2.2.2.2.2.2.1, w0.2.2.2.2.2.2.2.2.2.2.2.2.2.2.2.2)) (pc2 := 48) S gf_X9_56 pf_X9_3 0 rfl rfl rfl (Nat.le_of_ble_eq_true rfl) rfl dX9_record_45 rfl ?_
        refine v_lv [(0, .ref a0.1)] [0] rfl ?_
        exact B48 (w0.1, w0.2.1, w0.2.2.1, z6, w0.2.2.2.2.1, w0.2.2.2.2.2.1, w0.2.2.2.2.2.2.1, w0.2.2.2.2.2.2.2.1, w0.2.2.2.2.2.2.2.2.1, w0.2.2.2.2.2.2.2.2.2.1, w0.2.2.2.2.2.2.2.2.2.2.1, w0.2.2.2.2.2.2.2.2.2.2.2.1, w0.2.2.2.2.2.2.2.2.2.2.2.2.1, w0.2.2.2.2.2.2.2.2.2.2.2.2.2.1, w0.2.2.2.2.2.2.2.2.2.2.2.2.2.2.1, w0.2.2.2.2.2.2.2.2.2.2.2.2.2.2.2.1, w0.2.2.2.2.2.2.2.2.2.2.2.2.2.2.2.2) hw
      · have hw := hw.2 c5
        refine v_aload_n (pc2 := 18) S 0 dX9_record_17 rfl rfl rfl ?_
        refine v_get (v := .ref a0.2.2.2.1) (pc2 := 21) S gf_X9_16 0 rfl rfl dX9_record_18 rfl ?_
        refine v_iload_n (pc2 := 22) S 1 dX9_record_21 rfl rfl rfl ?_
        refine v_aload_n (pc2 := 23) S 0 dX9_record_22 rfl rfl rfl ?_
        refine v_get (v := .ref a0.2.2.2.1) (pc2 := 26) S gf_X9_16 0 rfl rfl dX9_record_23 rfl ?_
        refine v_iload_n (pc2 := 27) S 1 dX9_record_26 rfl rfl rfl ?_
        refine v_bipush (v := 85) (pc2 := 29) S dX9_record_27 (by decide) rfl ?_
        refine v_iadd (pc2 := 30) S dX9_record_29 rfl ?_
        obtain ⟨h7, hw⟩ := hw
        refine v_iald (pc2 := 31) S 3 rfl h7 dX9_record_30 rfl ?_
        obtain ⟨h8, hw⟩ := hw
        obtain ⟨g9, eg9⟩ : ∃ y : Nat → Int32, y = upd w0.2.2.1 x1.toNatClampNeg (w0.2.2.1 (x1 + (85 : Int32)).toNatClampNeg) := ⟨_, rfl⟩
        have hw := hw g9 eg9
        refine v_iast (ws2 := wMod G a0 (w0.1, w0.2.1, g9, w0.2.2.2.1, w0.2.2.2.2.1, w0.2.2.2.2.2.1, w0.2.2.2.2.2.2.1, w0.2.2.2.2.2.2.2.1, w0.2.2.2.2.2.2.2.2.1, w0.2.2.2.2.2.2.2.2.2.1, w0.2.2.2.2.2.2.2.2.2.2.1, w0.2.2.2.2.2.2.2.2.2.2.2.1, w0.2.2.2.2.2.2.2.2.2.2.2.2.1, w0.2.2.2.2.2.2.2.2.2.2.2.2.2.1, w0.2.2.2.2.2.2.2.2.2.2.2.2.2.2.1, w0.2.2.2.2.2.2.2.2.2.2.2.2.2.2.2.1, w0.2.2.2.2.2.2.2.2.2.2.2.2.2.2.2.2)) (pc2 := 32) S 3 rfl h8 (by rw [eg9] <;> rfl) dX9_record_31 rfl ?_
        obtain ⟨z10, ez10⟩ : ∃ y : Int32, y = x1 + (1 : Int32) := ⟨_, rfl⟩
        have hw := hw z10 ez10
        refine v_iinc (v := z10) (lv2 := [(0, .ref a0.1), (1, .int z10)]) (pc2 := 35) S 1 dX9_record_32 rfl (by rw [ez10]; rfl) (by decide) [1, 0] rfl rfl ?_
        refine v_goto (tgt := 10) S dX9_record_35 (by decide) ?_
        exact ih z10 (w0.1, w0.2.1, g9, w0.2.2.2.1, w0.2.2.2.2.1, w0.2.2.2.2.2.1, w0.2.2.2.2.2.2.1, w0.2.2.2.2.2.2.2.1, w0.2.2.2.2.2.2.2.2.1, w0.2.2.2.2.2.2.2.2.2.1, w0.2.2.2.2.2.2.2.2.2.2.1, w0.2.2.2.2.2.2.2.2.2.2.2.1, w0.2.2.2.2.2.2.2.2.2.2.2.2.1, w0.2.2.2.2.2.2.2.2.2.2.2.2.2.1, w0.2.2.2.2.2.2.2.2.2.2.2.2.2.2.1, w0.2.2.2.2.2.2.2.2.2.2.2.2.2.2.2.1, w0.2.2.2.2.2.2.2.2.2.2.2.2.2.2.2.2) hw
  refine v_aload_n (pc2 := 1) S 0 dX9_record_0 rfl rfl rfl ?_
  refine v_get (v := .int v0.2.2.2.1) (pc2 := 4) S gf_X9_56 0 rfl rfl dX9_record_1 rfl ?_
  refine v_iconst (v := 4) (pc2 := 5) S dX9_record_4 (by decide) rfl ?_
  refine v_icmp_ne (pc2 := 8) (tgt := 48) S dX9_record_5 (by decide) rfl (fun c1 => ?_) (fun c1 => ?_)
  · have hw := hw.1 c1
    exact B48 v0 hw
  · have hw := hw.2 c1
    refine v_iconst (v := 0) (pc2 := 9) S dX9_record_8 (by decide) rfl ?_
    refine v_istore_n (lv2 := [(0, .ref a0.1), (1, .int (0 : Int32))]) (pc2 := 10) S dX9_record_9 rfl (by decide) [1, 0] rfl rfl ?_
    obtain ⟨kk, hw⟩ := hw
    exact L10 kk (0 : Int32) v0 hw
set_option maxHeartbeats 4000000 in
set_option maxRecDepth 100000 in
theorem c_X9_undo (l : Launch) (G : GG) (a0 : ModA) (v0 : ModV) (Q : Int32 → ModV → Prop) (hw : wp_X9_undo v0 Q) : Con l G yX9_undo cX9_undo 1 (some .int) { frames := 1, cells := 0, slots := 0, locals := 24 } [.ref a0.1] (wMod G a0 v0) (PI (fun u : ModV => wMod G a0 u) Q) 0 0 := by
  refine con_of RX9 rfl (by decide) [(0, .ref a0.1)] rfl (Nat.le_of_ble_eq_true rfl) ?_
  intro p e s m args below meth c S hname
  refine v_aload_n (pc2 := 1) S 0 dX9_undo_0 rfl rfl rfl ?_
  refine v_get (v := .int v0.2.2.2.1) (pc2 := 4) S gf_X9_56 0 rfl rfl dX9_undo_1 rfl ?_
  refine v_if_ne (pc2 := 7) (tgt := 10) S dX9_undo_4 (by decide) rfl (fun c1 => ?_) (fun c1 => ?_)
  · have hw := hw.1 c1
    refine v_aload_n (pc2 := 11) S 0 dX9_undo_10 rfl rfl rfl ?_
    refine v_dup (pc2 := 12) S dX9_undo_11 rfl rfl ?_
    refine v_get (v := .int v0.2.2.2.1) (pc2 := 15) S gf_X9_56 0 rfl rfl dX9_undo_12 rfl ?_
    refine v_iconst (v := 1) (pc2 := 16) S dX9_undo_15 (by decide) rfl ?_
    refine v_isub (pc2 := 17) S dX9_undo_16 rfl ?_
    refine v_nm (fun z2 ez2 => ?_)
    have hw := hw z2 ez2
    refine v_put (ws2 := wMod G a0 (v0.1, v0.2.1, v0.2.2.1, z2, v0.2.2.2.2.1, v0.2.2.2.2.2.1, v0.2.2.2.2.2.2.1, v0.2.2.2.2.2.2.2.1, v0.2.2.2.2.2.2.2.2.1, v0.2.2.2.2.2.2.2.2.2.1, v0.2.2.2.2.2.2.2.2.2.2.1, v0.2.2.2.2.2.2.2.2.2.2.2.1, v0.2.2.2.2.2.2.2.2.2.2.2.2.1, v0.2.2.2.2.2.2.2.2.2.2.2.2.2.1, v0.2.2.2.2.2.2.2.2.2.2.2.2.2.2.1, v0.2.2.2.2.2.2.2.2.2.2.2.2.2.2.2.1, v0.2.2.2.2.2.2.2.2.2.2.2.2.2.2.2.2)) (pc2 := 20) S gf_X9_56 pf_X9_3 0 rfl rfl rfl (Nat.le_of_ble_eq_true rfl) rfl dX9_undo_17 rfl ?_
    refine v_aload_n (pc2 := 21) S 0 dX9_undo_20 rfl rfl rfl ?_
    refine v_get (v := .ref a0.2.2.2.1) (pc2 := 24) S gf_X9_16 0 rfl rfl dX9_undo_21 rfl ?_
    refine v_bipush (v := 85) (pc2 := 26) S dX9_undo_24 (by decide) rfl ?_
    refine v_aload_n (pc2 := 27) S 0 dX9_undo_26 rfl rfl rfl ?_
    refine v_get (v := .int z2) (pc2 := 30) S gf_X9_56 0 rfl rfl dX9_undo_27 rfl ?_
    refine v_imul (pc2 := 31) S dX9_undo_30 rfl ?_
    refine v_aload_n (pc2 := 32) S 0 dX9_undo_31 rfl rfl rfl ?_
    refine v_get (v := .ref a0.2.1) (pc2 := 35) S gf_X9_7 0 rfl rfl dX9_undo_32 rfl ?_
    refine v_iconst (v := 0) (pc2 := 36) S dX9_undo_35 (by decide) rfl ?_
    refine v_callS (pc2 := 39) (As := [.ref a0.2.2.2.1, .int ((85 : Int32) * z2), .ref a0.2.1, .int (0 : Int32)]) (rest := []) S (c_X9_copyState l G 340 85 a0.2.2.2.1 a0.2.1 v0.2.2.1 v0.1 ((85 : Int32) * z2) (0 : Int32) _ hw) mf_X9_copyState u_807 u_808 rfl rfl ⟨rfl, rfl⟩ ⟨Nat.le_of_ble_eq_true rfl, Nat.le_of_ble_eq_true rfl⟩ ⟨Nat.le_of_ble_eq_true rfl, Nat.le_of_ble_eq_true rfl⟩ (Nat.le_of_ble_eq_true rfl) dX9_undo_36 (frP (Rs := ([(a0.1, .inr (9, [.ref a0.2.1, .ref a0.2.2.1, .ref a0.2.2.2.1, .int z2, .ref a0.2.2.2.2.1, .int v0.2.2.2.2.2.1, .ref a0.2.2.2.2.2.1, .int v0.2.2.2.2.2.2.2.1, .int v0.2.2.2.2.2.2.2.2.1, .int v0.2.2.2.2.2.2.2.2.2.1, .int v0.2.2.2.2.2.2.2.2.2.2.1, .int v0.2.2.2.2.2.2.2.2.2.2.2.1, .ref a0.2.2.2.2.2.2.1, .int v0.2.2.2.2.2.2.2.2.2.2.2.2.2.1, .ref a0.2.2.2.2.2.2.2.1, .ref a0.2.2.2.2.2.2.2.2, .int v0.2.2.2.2.2.2.2.2.2.2.2.2.2.2.2.2]))] : va_W) ++ (([(a0.2.2.1, .inl (G.2.1, 85, .inl v0.2.1))] : va_W) ++ (([(a0.2.2.2.2.1, .inl (G.2.1, 85, .inl v0.2.2.2.2.1))] : va_W) ++ (([(a0.2.2.2.2.2.1, .inl (G.2.1, 60, .inl v0.2.2.2.2.2.2.1))] : va_W) ++ (([(a0.2.2.2.2.2.2.1, .inl (G.2.1, 124, .inl v0.2.2.2.2.2.2.2.2.2.2.2.2.1))] : va_W) ++ (([(a0.2.2.2.2.2.2.2.1, .inl (G.2.1, 6144, .inl v0.2.2.2.2.2.2.2.2.2.2.2.2.2.2.1))] : va_W) ++ (([(a0.2.2.2.2.2.2.2.2, .inl (G.2.1, 6144, .inl v0.2.2.2.2.2.2.2.2.2.2.2.2.2.2.2.1))] : va_W)))))))) (gperm [[(a0.1, .inr (9, [.ref a0.2.1, .ref a0.2.2.1, .ref a0.2.2.2.1, .int z2, .ref a0.2.2.2.2.1, .int v0.2.2.2.2.2.1, .ref a0.2.2.2.2.2.1, .int v0.2.2.2.2.2.2.2.1, .int v0.2.2.2.2.2.2.2.2.1, .int v0.2.2.2.2.2.2.2.2.2.1, .int v0.2.2.2.2.2.2.2.2.2.2.1, .int v0.2.2.2.2.2.2.2.2.2.2.2.1, .ref a0.2.2.2.2.2.2.1, .int v0.2.2.2.2.2.2.2.2.2.2.2.2.2.1, .ref a0.2.2.2.2.2.2.2.1, .ref a0.2.2.2.2.2.2.2.2, .int v0.2.2.2.2.2.2.2.2.2.2.2.2.2.2.2.2]))], [(a0.2.1, .inl (G.2.1, 85, .inl v0.1))], [(a0.2.2.1, .inl (G.2.1, 85, .inl v0.2.1))], [(a0.2.2.2.1, .inl (G.2.1, 340, .inl v0.2.2.1))], [(a0.2.2.2.2.1, .inl (G.2.1, 85, .inl v0.2.2.2.2.1))], [(a0.2.2.2.2.2.1, .inl (G.2.1, 60, .inl v0.2.2.2.2.2.2.1))], [(a0.2.2.2.2.2.2.1, .inl (G.2.1, 124, .inl v0.2.2.2.2.2.2.2.2.2.2.2.2.1))], [(a0.2.2.2.2.2.2.2.1, .inl (G.2.1, 6144, .inl v0.2.2.2.2.2.2.2.2.2.2.2.2.2.2.1))], [(a0.2.2.2.2.2.2.2.2, .inl (G.2.1, 6144, .inl v0.2.2.2.2.2.2.2.2.2.2.2.2.2.2.2.1))]] [3, 1, 0, 2, 4, 5, 6, 7, 8] rfl)) rfl (pv (fun u4 hw => ?_))
    refine v_perm _ (gperm [[(a0.2.2.2.1, .inl (G.2.1, 340, .inl v0.2.2.1))], [(a0.2.1, .inl (G.2.1, 85, .inl u4))], [(a0.1, .inr (9, [.ref a0.2.1, .ref a0.2.2.1, .ref a0.2.2.2.1, .int z2, .ref a0.2.2.2.2.1, .int v0.2.2.2.2.2.1, .ref a0.2.2.2.2.2.1, .int v0.2.2.2.2.2.2.2.1, .int v0.2.2.2.2.2.2.2.2.1, .int v0.2.2.2.2.2.2.2.2.2.1, .int v0.2.2.2.2.2.2.2.2.2.2.1, .int v0.2.2.2.2.2.2.2.2.2.2.2.1, .ref a0.2.2.2.2.2.2.1, .int v0.2.2.2.2.2.2.2.2.2.2.2.2.2.1, .ref a0.2.2.2.2.2.2.2.1, .ref a0.2.2.2.2.2.2.2.2, .int v0.2.2.2.2.2.2.2.2.2.2.2.2.2.2.2.2]))], [(a0.2.2.1, .inl (G.2.1, 85, .inl v0.2.1))], [(a0.2.2.2.2.1, .inl (G.2.1, 85, .inl v0.2.2.2.2.1))], [(a0.2.2.2.2.2.1, .inl (G.2.1, 60, .inl v0.2.2.2.2.2.2.1))], [(a0.2.2.2.2.2.2.1, .inl (G.2.1, 124, .inl v0.2.2.2.2.2.2.2.2.2.2.2.2.1))], [(a0.2.2.2.2.2.2.2.1, .inl (G.2.1, 6144, .inl v0.2.2.2.2.2.2.2.2.2.2.2.2.2.2.1))], [(a0.2.2.2.2.2.2.2.2, .inl (G.2.1, 6144, .inl v0.2.2.2.2.2.2.2.2.2.2.2.2.2.2.2.1))]] [2, 1, 3, 0, 4, 5, 6, 7, 8] rfl) ?_
    refine v_to (wMod G a0 (u4, v0.2.1, v0.2.2.1, z2, v0.2.2.2.2.1, v0.2.2.2.2.2.1, v0.2.2.2.2.2.2.1, v0.2.2.2.2.2.2.2.1, v0.2.2.2.2.2.2.2.2.1, v0.2.2.2.2.2.2.2.2.2.1, v0.2.2.2.2.2.2.2.2.2.2.1, v0.2.2.2.2.2.2.2.2.2.2.2.1, v0.2.2.2.2.2.2.2.2.2.2.2.2.1, v0.2.2.2.2.2.2.2.2.2.2.2.2.2.1, v0.2.2.2.2.2.2.2.2.2.2.2.2.2.2.1, v0.2.2.2.2.2.2.2.2.2.2.2.2.2.2.2.1, v0.2.2.2.2.2.2.2.2.2.2.2.2.2.2.2.2)) 39 [(0, .ref a0.1)] _ [] rfl rfl rfl rfl ?_
    refine v_aload_n (pc2 := 40) S 0 dX9_undo_39 rfl rfl rfl ?_
    refine v_get (v := .int z2) (pc2 := 43) S gf_X9_56 0 rfl rfl dX9_undo_40 rfl ?_
    exact v_iret S ⟨z2, (u4, v0.2.1, v0.2.2.1, z2, v0.2.2.2.2.1, v0.2.2.2.2.2.1, v0.2.2.2.2.2.2.1, v0.2.2.2.2.2.2.2.1, v0.2.2.2.2.2.2.2.2.1, v0.2.2.2.2.2.2.2.2.2.1, v0.2.2.2.2.2.2.2.2.2.2.1, v0.2.2.2.2.2.2.2.2.2.2.2.1, v0.2.2.2.2.2.2.2.2.2.2.2.2.1, v0.2.2.2.2.2.2.2.2.2.2.2.2.2.1, v0.2.2.2.2.2.2.2.2.2.2.2.2.2.2.1, v0.2.2.2.2.2.2.2.2.2.2.2.2.2.2.2.1, v0.2.2.2.2.2.2.2.2.2.2.2.2.2.2.2.2), rfl, rfl, hw⟩ dX9_undo_43
  · have hw := hw.2 c1
    refine v_bipush (v := -2) (pc2 := 9) S dX9_undo_7 (by decide) rfl ?_
    exact v_iret S ⟨(-2 : Int32), v0, rfl, rfl, hw⟩ dX9_undo_9
set_option maxHeartbeats 4000000 in
set_option maxRecDepth 100000 in
theorem c_X9_openSet (l : Launch) (G : GG) (a0 : ModA) (v0 : ModV) (Q : Int32 → Prop) (hw : wp_X9_openSet v0 Q) : Con l G yX9_openSet cX9_openSet 3 (some .int) { frames := 1, cells := 0, slots := 0, locals := 22 } [.ref a0.1] (wMod G a0 v0) (PI (fun _ : Unit => wMod G a0 v0) (fun r _ => Q r)) 0 0 := by
  refine con_of RX9 rfl (by decide) [(0, .ref a0.1)] rfl (Nat.le_of_ble_eq_true rfl) ?_
  intro p e s m args below meth c S hname
  have L4 : ∀ (kk : Nat) (x1 : Int32) (x2 : Int32), wp_X9_openSet_L4 v0 Q kk x1 x2 → V p l e { frames := 1, cells := 0, slots := 0, locals := 22 } s m args below meth c G (va_A (wMod G a0 v0) s.heap.size) 3 0 0 (MQ below (EQ G (wMod G a0 v0) s.heap.size (PI (fun _ : Unit => wMod G a0 v0) (fun r _ => Q r))) args s 0 0 (va_A (wMod G a0 v0) s.heap.size)) (wMod G a0 v0) 4 [(0, .ref a0.1), (1, .int x1), (2, .int x2)] [] := by
    intro kk
    induction kk with
    | zero => intro x1 x2 hw; exact hw.elim
    | succ n ih =>
      intro x1 x2 hw
      refine v_iload_n (pc2 := 5) S 2 dX9_openSet_4 rfl rfl rfl ?_
      refine v_bipush (v := 10) (pc2 := 7) S dX9_openSet_5 (by decide) rfl ?_
      refine v_icmp_ge (pc2 := 10) (tgt := 27) S dX9_openSet_7 (by decide) rfl (fun c1 => ?_) (fun c1 => ?_)
      · have hw := hw.1 c1
        refine v_iload_n (pc2 := 28) S 1 dX9_openSet_27 rfl rfl rfl ?_
        exact v_iret S ⟨x1, (), rfl, rfl, hw⟩ dX9_openSet_28
      · have hw := hw.2 c1
        refine v_iload_n (pc2 := 11) S 1 dX9_openSet_10 rfl rfl rfl ?_
        refine v_aload_n (pc2 := 12) S 0 dX9_openSet_11 rfl rfl rfl ?_
        refine v_iload_n (pc2 := 13) S 2 dX9_openSet_12 rfl rfl rfl ?_
        refine v_iconst (v := 0) (pc2 := 14) S dX9_openSet_13 (by decide) rfl ?_
        refine v_callV (pc2 := 17) (As := [.int x2, .int (0 : Int32)]) (rest := [.int x1]) S (c_X9_of l G a0 v0 x2 (0 : Int32) _ hw) mf_X9_of u_818 u_820 u_18 0 9 rfl rfl rfl rfl ⟨rfl, rfl⟩ ⟨Nat.le_of_ble_eq_true rfl, Nat.le_of_ble_eq_true rfl⟩ ⟨Nat.le_of_ble_eq_true rfl, Nat.le_of_ble_eq_true rfl⟩ (Nat.le_of_ble_eq_true rfl) dX9_openSet_14 (frW _) rfl (pi (fun r2 u3 hw => ?_))
        refine v_to (wMod G a0 v0) 17 [(0, .ref a0.1), (1, .int x1), (2, .int x2)] _ [.int r2, .int x1] rfl rfl rfl rfl ?_
        refine v_iload_n (pc2 := 18) S 2 dX9_openSet_17 rfl rfl rfl ?_
        refine v_ishl (pc2 := 19) S dX9_openSet_18 rfl ?_
        refine v_ior (pc2 := 20) S dX9_openSet_19 rfl ?_
        refine v_nm (fun z4 ez4 => ?_)
        have hw := hw z4 ez4
        refine v_istore_n (lv2 := [(0, .ref a0.1), (1, .int z4), (2, .int x2)]) (pc2 := 21) S dX9_openSet_20 rfl (by decide) [1, 0, 2] rfl rfl ?_
        obtain ⟨z5, ez5⟩ : ∃ y : Int32, y = x2 + (1 : Int32) := ⟨_, rfl⟩
        have hw := hw z5 ez5
        refine v_iinc (v := z5) (lv2 := [(0, .ref a0.1), (1, .int z4), (2, .int z5)]) (pc2 := 24) S 2 dX9_openSet_21 rfl (by rw [ez5]; rfl) (by decide) [1, 2, 0] rfl rfl ?_
        refine v_goto (tgt := 4) S dX9_openSet_24 (by decide) ?_
        exact ih z4 z5 hw
  refine v_iconst (v := 0) (pc2 := 1) S dX9_openSet_0 (by decide) rfl ?_
  refine v_istore_n (lv2 := [(0, .ref a0.1), (1, .int (0 : Int32))]) (pc2 := 2) S dX9_openSet_1 rfl (by decide) [1, 0] rfl rfl ?_
  refine v_iconst (v := 0) (pc2 := 3) S dX9_openSet_2 (by decide) rfl ?_
  refine v_istore_n (lv2 := [(0, .ref a0.1), (1, .int (0 : Int32)), (2, .int (0 : Int32))]) (pc2 := 4) S dX9_openSet_3 rfl (by decide) [1, 2, 0] rfl rfl ?_
  obtain ⟨kk, hw⟩ := hw
  exact L4 kk (0 : Int32) (0 : Int32) hw
set_option maxHeartbeats 4000000 in
set_option maxRecDepth 100000 in
theorem c_X9_save (l : Launch) (G : GG) (a0 : ModA) (v0 : ModV) (Q : Int32 → ModV → Prop) (hw : wp_X9_save v0 Q) : Con l G yX9_save cX9_save 1 (some .int) { frames := 2, cells := 0, slots := 0, locals := 44 } [.ref a0.1] (wMod G a0 v0) (PI (fun u : ModV => wMod G a0 u) Q) 0 0 := by
  refine con_of RX9 rfl (by decide) [(0, .ref a0.1)] rfl (Nat.le_of_ble_eq_true rfl) ?_
  intro p e s m args below meth c S hname
  refine v_aload_n (pc2 := 1) S 0 dX9_save_0 rfl rfl rfl ?_
  refine v_get (v := .ref a0.2.1) (pc2 := 4) S gf_X9_7 0 rfl rfl dX9_save_1 rfl ?_
  refine v_iconst (v := 0) (pc2 := 5) S dX9_save_4 (by decide) rfl ?_
  refine v_aload_n (pc2 := 6) S 0 dX9_save_5 rfl rfl rfl ?_
  refine v_get (v := .ref a0.2.2.2.2.1) (pc2 := 9) S gf_X9_19 0 rfl rfl dX9_save_6 rfl ?_
  refine v_iconst (v := 0) (pc2 := 10) S dX9_save_9 (by decide) rfl ?_
  refine v_callS (pc2 := 13) (As := [.ref a0.2.1, .int (0 : Int32), .ref a0.2.2.2.2.1, .int (0 : Int32)]) (rest := []) S (c_X9_copyState l G 85 85 a0.2.1 a0.2.2.2.2.1 v0.1 v0.2.2.2.2.1 (0 : Int32) (0 : Int32) _ hw) mf_X9_copyState u_807 u_808 rfl rfl ⟨rfl, rfl⟩ ⟨Nat.le_of_ble_eq_true rfl, Nat.le_of_ble_eq_true rfl⟩ ⟨Nat.le_of_ble_eq_true rfl, Nat.le_of_ble_eq_true rfl⟩ (Nat.le_of_ble_eq_true rfl) dX9_save_10 (frP (Rs := ([(a0.1, .inr (9, [.ref a0.2.1, .ref a0.2.2.1, .ref a0.2.2.2.1, .int v0.2.2.2.1, .ref a0.2.2.2.2.1, .int v0.2.2.2.2.2.1, .ref a0.2.2.2.2.2.1, .int v0.2.2.2.2.2.2.2.1, .int v0.2.2.2.2.2.2.2.2.1, .int v0.2.2.2.2.2.2.2.2.2.1, .int v0.2.2.2.2.2.2.2.2.2.2.1, .int v0.2.2.2.2.2.2.2.2.2.2.2.1, .ref a0.2.2.2.2.2.2.1, .int v0.2.2.2.2.2.2.2.2.2.2.2.2.2.1, .ref a0.2.2.2.2.2.2.2.1, .ref a0.2.2.2.2.2.2.2.2, .int v0.2.2.2.2.2.2.2.2.2.2.2.2.2.2.2.2]))] : va_W) ++ (([(a0.2.2.1, .inl (G.2.1, 85, .inl v0.2.1))] : va_W) ++ (([(a0.2.2.2.1, .inl (G.2.1, 340, .inl v0.2.2.1))] : va_W) ++ (([(a0.2.2.2.2.2.1, .inl (G.2.1, 60, .inl v0.2.2.2.2.2.2.1))] : va_W) ++ (([(a0.2.2.2.2.2.2.1, .inl (G.2.1, 124, .inl v0.2.2.2.2.2.2.2.2.2.2.2.2.1))] : va_W) ++ (([(a0.2.2.2.2.2.2.2.1, .inl (G.2.1, 6144, .inl v0.2.2.2.2.2.2.2.2.2.2.2.2.2.2.1))] : va_W) ++ (([(a0.2.2.2.2.2.2.2.2, .inl (G.2.1, 6144, .inl v0.2.2.2.2.2.2.2.2.2.2.2.2.2.2.2.1))] : va_W)))))))) (gperm [[(a0.1, .inr (9, [.ref a0.2.1, .ref a0.2.2.1, .ref a0.2.2.2.1, .int v0.2.2.2.1, .ref a0.2.2.2.2.1, .int v0.2.2.2.2.2.1, .ref a0.2.2.2.2.2.1, .int v0.2.2.2.2.2.2.2.1, .int v0.2.2.2.2.2.2.2.2.1, .int v0.2.2.2.2.2.2.2.2.2.1, .int v0.2.2.2.2.2.2.2.2.2.2.1, .int v0.2.2.2.2.2.2.2.2.2.2.2.1, .ref a0.2.2.2.2.2.2.1, .int v0.2.2.2.2.2.2.2.2.2.2.2.2.2.1, .ref a0.2.2.2.2.2.2.2.1, .ref a0.2.2.2.2.2.2.2.2, .int v0.2.2.2.2.2.2.2.2.2.2.2.2.2.2.2.2]))], [(a0.2.1, .inl (G.2.1, 85, .inl v0.1))], [(a0.2.2.1, .inl (G.2.1, 85, .inl v0.2.1))], [(a0.2.2.2.1, .inl (G.2.1, 340, .inl v0.2.2.1))], [(a0.2.2.2.2.1, .inl (G.2.1, 85, .inl v0.2.2.2.2.1))], [(a0.2.2.2.2.2.1, .inl (G.2.1, 60, .inl v0.2.2.2.2.2.2.1))], [(a0.2.2.2.2.2.2.1, .inl (G.2.1, 124, .inl v0.2.2.2.2.2.2.2.2.2.2.2.2.1))], [(a0.2.2.2.2.2.2.2.1, .inl (G.2.1, 6144, .inl v0.2.2.2.2.2.2.2.2.2.2.2.2.2.2.1))], [(a0.2.2.2.2.2.2.2.2, .inl (G.2.1, 6144, .inl v0.2.2.2.2.2.2.2.2.2.2.2.2.2.2.2.1))]] [1, 4, 0, 2, 3, 5, 6, 7, 8] rfl)) rfl (pv (fun u2 hw => ?_))
  refine v_perm _ (gperm [[(a0.2.1, .inl (G.2.1, 85, .inl v0.1))], [(a0.2.2.2.2.1, .inl (G.2.1, 85, .inl u2))], [(a0.1, .inr (9, [.ref a0.2.1, .ref a0.2.2.1, .ref a0.2.2.2.1, .int v0.2.2.2.1, .ref a0.2.2.2.2.1, .int v0.2.2.2.2.2.1, .ref a0.2.2.2.2.2.1, .int v0.2.2.2.2.2.2.2.1, .int v0.2.2.2.2.2.2.2.2.1, .int v0.2.2.2.2.2.2.2.2.2.1, .int v0.2.2.2.2.2.2.2.2.2.2.1, .int v0.2.2.2.2.2.2.2.2.2.2.2.1, .ref a0.2.2.2.2.2.2.1, .int v0.2.2.2.2.2.2.2.2.2.2.2.2.2.1, .ref a0.2.2.2.2.2.2.2.1, .ref a0.2.2.2.2.2.2.2.2, .int v0.2.2.2.2.2.2.2.2.2.2.2.2.2.2.2.2]))], [(a0.2.2.1, .inl (G.2.1, 85, .inl v0.2.1))], [(a0.2.2.2.1, .inl (G.2.1, 340, .inl v0.2.2.1))], [(a0.2.2.2.2.2.1, .inl (G.2.1, 60, .inl v0.2.2.2.2.2.2.1))], [(a0.2.2.2.2.2.2.1, .inl (G.2.1, 124, .inl v0.2.2.2.2.2.2.2.2.2.2.2.2.1))], [(a0.2.2.2.2.2.2.2.1, .inl (G.2.1, 6144, .inl v0.2.2.2.2.2.2.2.2.2.2.2.2.2.2.1))], [(a0.2.2.2.2.2.2.2.2, .inl (G.2.1, 6144, .inl v0.2.2.2.2.2.2.2.2.2.2.2.2.2.2.2.1))]] [2, 0, 3, 4, 1, 5, 6, 7, 8] rfl) ?_
  refine v_to (wMod G a0 (v0.1, v0.2.1, v0.2.2.1, v0.2.2.2.1, u2, v0.2.2.2.2.2.1, v0.2.2.2.2.2.2.1, v0.2.2.2.2.2.2.2.1, v0.2.2.2.2.2.2.2.2.1, v0.2.2.2.2.2.2.2.2.2.1, v0.2.2.2.2.2.2.2.2.2.2.1, v0.2.2.2.2.2.2.2.2.2.2.2.1, v0.2.2.2.2.2.2.2.2.2.2.2.2.1, v0.2.2.2.2.2.2.2.2.2.2.2.2.2.1, v0.2.2.2.2.2.2.2.2.2.2.2.2.2.2.1, v0.2.2.2.2.2.2.2.2.2.2.2.2.2.2.2.1, v0.2.2.2.2.2.2.2.2.2.2.2.2.2.2.2.2)) 13 [(0, .ref a0.1)] _ [] rfl rfl rfl rfl ?_
  refine v_aload_n (pc2 := 14) S 0 dX9_save_13 rfl rfl rfl ?_
  refine v_iconst (v := 1) (pc2 := 15) S dX9_save_14 (by decide) rfl ?_
  refine v_put (ws2 := wMod G a0 (v0.1, v0.2.1, v0.2.2.1, v0.2.2.2.1, u2, (1 : Int32), v0.2.2.2.2.2.2.1, v0.2.2.2.2.2.2.2.1, v0.2.2.2.2.2.2.2.2.1, v0.2.2.2.2.2.2.2.2.2.1, v0.2.2.2.2.2.2.2.2.2.2.1, v0.2.2.2.2.2.2.2.2.2.2.2.1, v0.2.2.2.2.2.2.2.2.2.2.2.2.1, v0.2.2.2.2.2.2.2.2.2.2.2.2.2.1, v0.2.2.2.2.2.2.2.2.2.2.2.2.2.2.1, v0.2.2.2.2.2.2.2.2.2.2.2.2.2.2.2.1, v0.2.2.2.2.2.2.2.2.2.2.2.2.2.2.2.2)) (pc2 := 18) S gf_X9_63 pf_X9_5 0 rfl (by decide) (by decide) (Nat.le_of_ble_eq_true rfl) rfl dX9_save_15 rfl ?_
  refine v_aload_n (pc2 := 19) S 0 dX9_save_18 rfl rfl rfl ?_
  refine v_callV (pc2 := 22) (As := []) (rest := []) S (c_X9_openSet l G a0 (v0.1, v0.2.1, v0.2.2.1, v0.2.2.2.1, u2, (1 : Int32), v0.2.2.2.2.2.2.1, v0.2.2.2.2.2.2.2.1, v0.2.2.2.2.2.2.2.2.1, v0.2.2.2.2.2.2.2.2.2.1, v0.2.2.2.2.2.2.2.2.2.2.1, v0.2.2.2.2.2.2.2.2.2.2.2.1, v0.2.2.2.2.2.2.2.2.2.2.2.2.1, v0.2.2.2.2.2.2.2.2.2.2.2.2.2.1, v0.2.2.2.2.2.2.2.2.2.2.2.2.2.2.1, v0.2.2.2.2.2.2.2.2.2.2.2.2.2.2.2.1, v0.2.2.2.2.2.2.2.2.2.2.2.2.2.2.2.2) _ hw) mf_X9_openSet u_814 u_816 u_17 0 9 rfl rfl rfl rfl ⟨rfl, rfl⟩ ⟨Nat.le_of_ble_eq_true rfl, Nat.le_of_ble_eq_true rfl⟩ ⟨Nat.le_of_ble_eq_true rfl, Nat.le_of_ble_eq_true rfl⟩ (Nat.le_of_ble_eq_true rfl) dX9_save_19 (frW _) rfl (pi (fun r3 u4 hw => ?_))
  refine v_to (wMod G a0 (v0.1, v0.2.1, v0.2.2.1, v0.2.2.2.1, u2, (1 : Int32), v0.2.2.2.2.2.2.1, v0.2.2.2.2.2.2.2.1, v0.2.2.2.2.2.2.2.2.1, v0.2.2.2.2.2.2.2.2.2.1, v0.2.2.2.2.2.2.2.2.2.2.1, v0.2.2.2.2.2.2.2.2.2.2.2.1, v0.2.2.2.2.2.2.2.2.2.2.2.2.1, v0.2.2.2.2.2.2.2.2.2.2.2.2.2.1, v0.2.2.2.2.2.2.2.2.2.2.2.2.2.2.1, v0.2.2.2.2.2.2.2.2.2.2.2.2.2.2.2.1, v0.2.2.2.2.2.2.2.2.2.2.2.2.2.2.2.2)) 22 [(0, .ref a0.1)] _ [.int r3] rfl rfl rfl rfl ?_
  exact v_iret S ⟨r3, (v0.1, v0.2.1, v0.2.2.1, v0.2.2.2.1, u2, (1 : Int32), v0.2.2.2.2.2.2.1, v0.2.2.2.2.2.2.2.1, v0.2.2.2.2.2.2.2.2.1, v0.2.2.2.2.2.2.2.2.2.1, v0.2.2.2.2.2.2.2.2.2.2.1, v0.2.2.2.2.2.2.2.2.2.2.2.1, v0.2.2.2.2.2.2.2.2.2.2.2.2.1, v0.2.2.2.2.2.2.2.2.2.2.2.2.2.1, v0.2.2.2.2.2.2.2.2.2.2.2.2.2.2.1, v0.2.2.2.2.2.2.2.2.2.2.2.2.2.2.2.1, v0.2.2.2.2.2.2.2.2.2.2.2.2.2.2.2.2), rfl, rfl, hw⟩ dX9_save_22
set_option maxHeartbeats 4000000 in
set_option maxRecDepth 100000 in
theorem c_X9_restore (l : Launch) (G : GG) (a0 : ModA) (v0 : ModV) (Q : Int32 → ModV → Prop) (hw : wp_X9_restore v0 Q) : Con l G yX9_restore cX9_restore 1 (some .int) { frames := 2, cells := 0, slots := 0, locals := 45 } [.ref a0.1] (wMod G a0 v0) (PI (fun u : ModV => wMod G a0 u) Q) 0 0 := by
  refine con_of RX9 rfl (by decide) [(0, .ref a0.1)] rfl (Nat.le_of_ble_eq_true rfl) ?_
  intro p e s m args below meth c S hname
  refine v_aload_n (pc2 := 1) S 0 dX9_restore_0 rfl rfl rfl ?_
  refine v_get (v := .int v0.2.2.2.2.2.1) (pc2 := 4) S gf_X9_63 0 rfl rfl dX9_restore_1 rfl ?_
  refine v_if_ne (pc2 := 7) (tgt := 10) S dX9_restore_4 (by decide) rfl (fun c1 => ?_) (fun c1 => ?_)
  · have hw := hw.1 c1
    refine v_aload_n (pc2 := 11) S 0 dX9_restore_10 rfl rfl rfl ?_
    refine v_callV (pc2 := 14) (As := []) (rest := []) S (c_X9_record l G a0 v0 _ hw) mf_X9_record u_826 u_828 u_19 0 9 rfl rfl rfl rfl ⟨rfl, rfl⟩ ⟨Nat.le_of_ble_eq_true rfl, Nat.le_of_ble_eq_true rfl⟩ ⟨Nat.le_of_ble_eq_true rfl, Nat.le_of_ble_eq_true rfl⟩ (Nat.le_of_ble_eq_true rfl) dX9_restore_11 (frW _) rfl (pv (fun u3 hw => ?_))
    refine v_to (wMod G a0 u3) 14 [(0, .ref a0.1)] _ [] rfl rfl rfl rfl ?_
    refine v_aload_n (pc2 := 15) S 0 dX9_restore_14 rfl rfl rfl ?_
    refine v_get (v := .ref a0.2.2.2.2.1) (pc2 := 18) S gf_X9_19 0 rfl rfl dX9_restore_15 rfl ?_
    refine v_iconst (v := 0) (pc2 := 19) S dX9_restore_18 (by decide) rfl ?_
    refine v_aload_n (pc2 := 20) S 0 dX9_restore_19 rfl rfl rfl ?_
    refine v_get (v := .ref a0.2.1) (pc2 := 23) S gf_X9_7 0 rfl rfl dX9_restore_20 rfl ?_
    refine v_iconst (v := 0) (pc2 := 24) S dX9_restore_23 (by decide) rfl ?_
    refine v_callS (pc2 := 27) (As := [.ref a0.2.2.2.2.1, .int (0 : Int32), .ref a0.2.1, .int (0 : Int32)]) (rest := []) S (c_X9_copyState l G 85 85 a0.2.2.2.2.1 a0.2.1 u3.2.2.2.2.1 u3.1 (0 : Int32) (0 : Int32) _ hw) mf_X9_copyState u_807 u_808 rfl rfl ⟨rfl, rfl⟩ ⟨Nat.le_of_ble_eq_true rfl, Nat.le_of_ble_eq_true rfl⟩ ⟨Nat.le_of_ble_eq_true rfl, Nat.le_of_ble_eq_true rfl⟩ (Nat.le_of_ble_eq_true rfl) dX9_restore_24 (frP (Rs := ([(a0.1, .inr (9, [.ref a0.2.1, .ref a0.2.2.1, .ref a0.2.2.2.1, .int u3.2.2.2.1, .ref a0.2.2.2.2.1, .int u3.2.2.2.2.2.1, .ref a0.2.2.2.2.2.1, .int u3.2.2.2.2.2.2.2.1, .int u3.2.2.2.2.2.2.2.2.1, .int u3.2.2.2.2.2.2.2.2.2.1, .int u3.2.2.2.2.2.2.2.2.2.2.1, .int u3.2.2.2.2.2.2.2.2.2.2.2.1, .ref a0.2.2.2.2.2.2.1, .int u3.2.2.2.2.2.2.2.2.2.2.2.2.2.1, .ref a0.2.2.2.2.2.2.2.1, .ref a0.2.2.2.2.2.2.2.2, .int u3.2.2.2.2.2.2.2.2.2.2.2.2.2.2.2.2]))] : va_W) ++ (([(a0.2.2.1, .inl (G.2.1, 85, .inl u3.2.1))] : va_W) ++ (([(a0.2.2.2.1, .inl (G.2.1, 340, .inl u3.2.2.1))] : va_W) ++ (([(a0.2.2.2.2.2.1, .inl (G.2.1, 60, .inl u3.2.2.2.2.2.2.1))] : va_W) ++ (([(a0.2.2.2.2.2.2.1, .inl (G.2.1, 124, .inl u3.2.2.2.2.2.2.2.2.2.2.2.2.1))] : va_W) ++ (([(a0.2.2.2.2.2.2.2.1, .inl (G.2.1, 6144, .inl u3.2.2.2.2.2.2.2.2.2.2.2.2.2.2.1))] : va_W) ++ (([(a0.2.2.2.2.2.2.2.2, .inl (G.2.1, 6144, .inl u3.2.2.2.2.2.2.2.2.2.2.2.2.2.2.2.1))] : va_W)))))))) (gperm [[(a0.1, .inr (9, [.ref a0.2.1, .ref a0.2.2.1, .ref a0.2.2.2.1, .int u3.2.2.2.1, .ref a0.2.2.2.2.1, .int u3.2.2.2.2.2.1, .ref a0.2.2.2.2.2.1, .int u3.2.2.2.2.2.2.2.1, .int u3.2.2.2.2.2.2.2.2.1, .int u3.2.2.2.2.2.2.2.2.2.1, .int u3.2.2.2.2.2.2.2.2.2.2.1, .int u3.2.2.2.2.2.2.2.2.2.2.2.1, .ref a0.2.2.2.2.2.2.1, .int u3.2.2.2.2.2.2.2.2.2.2.2.2.2.1, .ref a0.2.2.2.2.2.2.2.1, .ref a0.2.2.2.2.2.2.2.2, .int u3.2.2.2.2.2.2.2.2.2.2.2.2.2.2.2.2]))], [(a0.2.1, .inl (G.2.1, 85, .inl u3.1))], [(a0.2.2.1, .inl (G.2.1, 85, .inl u3.2.1))], [(a0.2.2.2.1, .inl (G.2.1, 340, .inl u3.2.2.1))], [(a0.2.2.2.2.1, .inl (G.2.1, 85, .inl u3.2.2.2.2.1))], [(a0.2.2.2.2.2.1, .inl (G.2.1, 60, .inl u3.2.2.2.2.2.2.1))], [(a0.2.2.2.2.2.2.1, .inl (G.2.1, 124, .inl u3.2.2.2.2.2.2.2.2.2.2.2.2.1))], [(a0.2.2.2.2.2.2.2.1, .inl (G.2.1, 6144, .inl u3.2.2.2.2.2.2.2.2.2.2.2.2.2.2.1))], [(a0.2.2.2.2.2.2.2.2, .inl (G.2.1, 6144, .inl u3.2.2.2.2.2.2.2.2.2.2.2.2.2.2.2.1))]] [4, 1, 0, 2, 3, 5, 6, 7, 8] rfl)) rfl (pv (fun u5 hw => ?_))
    refine v_perm _ (gperm [[(a0.2.2.2.2.1, .inl (G.2.1, 85, .inl u3.2.2.2.2.1))], [(a0.2.1, .inl (G.2.1, 85, .inl u5))], [(a0.1, .inr (9, [.ref a0.2.1, .ref a0.2.2.1, .ref a0.2.2.2.1, .int u3.2.2.2.1, .ref a0.2.2.2.2.1, .int u3.2.2.2.2.2.1, .ref a0.2.2.2.2.2.1, .int u3.2.2.2.2.2.2.2.1, .int u3.2.2.2.2.2.2.2.2.1, .int u3.2.2.2.2.2.2.2.2.2.1, .int u3.2.2.2.2.2.2.2.2.2.2.1, .int u3.2.2.2.2.2.2.2.2.2.2.2.1, .ref a0.2.2.2.2.2.2.1, .int u3.2.2.2.2.2.2.2.2.2.2.2.2.2.1, .ref a0.2.2.2.2.2.2.2.1, .ref a0.2.2.2.2.2.2.2.2, .int u3.2.2.2.2.2.2.2.2.2.2.2.2.2.2.2.2]))], [(a0.2.2.1, .inl (G.2.1, 85, .inl u3.2.1))], [(a0.2.2.2.1, .inl (G.2.1, 340, .inl u3.2.2.1))], [(a0.2.2.2.2.2.1, .inl (G.2.1, 60, .inl u3.2.2.2.2.2.2.1))], [(a0.2.2.2.2.2.2.1, .inl (G.2.1, 124, .inl u3.2.2.2.2.2.2.2.2.2.2.2.2.1))], [(a0.2.2.2.2.2.2.2.1, .inl (G.2.1, 6144, .inl u3.2.2.2.2.2.2.2.2.2.2.2.2.2.2.1))], [(a0.2.2.2.2.2.2.2.2, .inl (G.2.1, 6144, .inl u3.2.2.2.2.2.2.2.2.2.2.2.2.2.2.2.1))]] [2, 1, 3, 4, 0, 5, 6, 7, 8] rfl) ?_
    refine v_to (wMod G a0 (u5, u3.2.1, u3.2.2.1, u3.2.2.2.1, u3.2.2.2.2.1, u3.2.2.2.2.2.1, u3.2.2.2.2.2.2.1, u3.2.2.2.2.2.2.2.1, u3.2.2.2.2.2.2.2.2.1, u3.2.2.2.2.2.2.2.2.2.1, u3.2.2.2.2.2.2.2.2.2.2.1, u3.2.2.2.2.2.2.2.2.2.2.2.1, u3.2.2.2.2.2.2.2.2.2.2.2.2.1, u3.2.2.2.2.2.2.2.2.2.2.2.2.2.1, u3.2.2.2.2.2.2.2.2.2.2.2.2.2.2.1, u3.2.2.2.2.2.2.2.2.2.2.2.2.2.2.2.1, u3.2.2.2.2.2.2.2.2.2.2.2.2.2.2.2.2)) 27 [(0, .ref a0.1)] _ [] rfl rfl rfl rfl ?_
    refine v_aload_n (pc2 := 28) S 0 dX9_restore_27 rfl rfl rfl ?_
    refine v_callV (pc2 := 31) (As := []) (rest := []) S (c_X9_openSet l G a0 (u5, u3.2.1, u3.2.2.1, u3.2.2.2.1, u3.2.2.2.2.1, u3.2.2.2.2.2.1, u3.2.2.2.2.2.2.1, u3.2.2.2.2.2.2.2.1, u3.2.2.2.2.2.2.2.2.1, u3.2.2.2.2.2.2.2.2.2.1, u3.2.2.2.2.2.2.2.2.2.2.1, u3.2.2.2.2.2.2.2.2.2.2.2.1, u3.2.2.2.2.2.2.2.2.2.2.2.2.1, u3.2.2.2.2.2.2.2.2.2.2.2.2.2.1, u3.2.2.2.2.2.2.2.2.2.2.2.2.2.2.1, u3.2.2.2.2.2.2.2.2.2.2.2.2.2.2.2.1, u3.2.2.2.2.2.2.2.2.2.2.2.2.2.2.2.2) _ hw) mf_X9_openSet u_814 u_816 u_17 0 9 rfl rfl rfl rfl ⟨rfl, rfl⟩ ⟨Nat.le_of_ble_eq_true rfl, Nat.le_of_ble_eq_true rfl⟩ ⟨Nat.le_of_ble_eq_true rfl, Nat.le_of_ble_eq_true rfl⟩ (Nat.le_of_ble_eq_true rfl) dX9_restore_28 (frW _) rfl (pi (fun r6 u7 hw => ?_))
    refine v_to (wMod G a0 (u5, u3.2.1, u3.2.2.1, u3.2.2.2.1, u3.2.2.2.2.1, u3.2.2.2.2.2.1, u3.2.2.2.2.2.2.1, u3.2.2.2.2.2.2.2.1, u3.2.2.2.2.2.2.2.2.1, u3.2.2.2.2.2.2.2.2.2.1, u3.2.2.2.2.2.2.2.2.2.2.1, u3.2.2.2.2.2.2.2.2.2.2.2.1, u3.2.2.2.2.2.2.2.2.2.2.2.2.1, u3.2.2.2.2.2.2.2.2.2.2.2.2.2.1, u3.2.2.2.2.2.2.2.2.2.2.2.2.2.2.1, u3.2.2.2.2.2.2.2.2.2.2.2.2.2.2.2.1, u3.2.2.2.2.2.2.2.2.2.2.2.2.2.2.2.2)) 31 [(0, .ref a0.1)] _ [.int r6] rfl rfl rfl rfl ?_
    exact v_iret S ⟨r6, (u5, u3.2.1, u3.2.2.1, u3.2.2.2.1, u3.2.2.2.2.1, u3.2.2.2.2.2.1, u3.2.2.2.2.2.2.1, u3.2.2.2.2.2.2.2.1, u3.2.2.2.2.2.2.2.2.1, u3.2.2.2.2.2.2.2.2.2.1, u3.2.2.2.2.2.2.2.2.2.2.1, u3.2.2.2.2.2.2.2.2.2.2.2.1, u3.2.2.2.2.2.2.2.2.2.2.2.2.1, u3.2.2.2.2.2.2.2.2.2.2.2.2.2.1, u3.2.2.2.2.2.2.2.2.2.2.2.2.2.2.1, u3.2.2.2.2.2.2.2.2.2.2.2.2.2.2.2.1, u3.2.2.2.2.2.2.2.2.2.2.2.2.2.2.2.2), rfl, rfl, hw⟩ dX9_restore_31
  · have hw := hw.2 c1
    refine v_bipush (v := -2) (pc2 := 9) S dX9_restore_7 (by decide) rfl ?_
    exact v_iret S ⟨(-2 : Int32), v0, rfl, rfl, hw⟩ dX9_restore_9
set_option maxHeartbeats 4000000 in
set_option maxRecDepth 100000 in
theorem c_X9_cordsTo (l : Launch) (G : GG) (a0 : ModA) (v0 : ModV) (i0 : Int32) (i1 : Int32) (Q : Int32 → Prop) (hw : wp_X9_cordsTo v0 i0 i1 Q) : Con l G yX9_cordsTo cX9_cordsTo 5 (some .int) { frames := 2, cells := 0, slots := 0, locals := 44 } [.ref a0.1, .int i0, .int i1] (wMod G a0 v0) (PI (fun _ : Unit => wMod G a0 v0) (fun r _ => Q r)) 0 0 := by
  refine con_of RX9 rfl (by decide) [(0, .ref a0.1), (1, .int i0), (2, .int i1)] rfl (Nat.le_of_ble_eq_true rfl) ?_
  intro p e s m args below meth c S hname
  have L5 : ∀ (x1 : Int32) (x2 : Int32) (kk : Nat) (x3 : Int32) (x4 : Int32), wp_X9_cordsTo_L5 v0 x1 x2 Q kk x3 x4 → V p l e { frames := 2, cells := 0, slots := 0, locals := 44 } s m args below meth c G (va_A (wMod G a0 v0) s.heap.size) 5 0 0 (MQ below (EQ G (wMod G a0 v0) s.heap.size (PI (fun _ : Unit => wMod G a0 v0) (fun r _ => Q r))) args s 0 0 (va_A (wMod G a0 v0) s.heap.size)) (wMod G a0 v0) 5 [(0, .ref a0.1), (1, .int x1), (2, .int x2), (3, .int x3), (4, .int x4)] [] := by
    intro x1 x2 kk
    induction kk with
    | zero => intro x3 x4 hw; exact hw.elim
    | succ n ih =>
      intro x3 x4 hw
      refine v_iload (pc2 := 7) S 4 dX9_cordsTo_5 rfl rfl ?_
      refine v_bipush (v := 10) (pc2 := 9) S dX9_cordsTo_7 (by decide) rfl ?_
      refine v_icmp_ge (pc2 := 12) (tgt := 49) S dX9_cordsTo_9 (by decide) rfl (fun c1 => ?_) (fun c1 => ?_)
      · have hw := hw.1 c1
        refine v_iload_n (pc2 := 50) S 3 dX9_cordsTo_49 rfl rfl rfl ?_
        exact v_iret S ⟨x3, (), rfl, rfl, hw⟩ dX9_cordsTo_50
      · have hw := hw.2 c1
        refine v_iload_n (pc2 := 13) S 3 dX9_cordsTo_12 rfl rfl rfl ?_
        refine v_aload_n (pc2 := 14) S 0 dX9_cordsTo_13 rfl rfl rfl ?_
        refine v_iload (pc2 := 16) S 4 dX9_cordsTo_14 rfl rfl ?_
        refine v_iload_n (pc2 := 17) S 1 dX9_cordsTo_16 rfl rfl rfl ?_
        refine v_callV (pc2 := 20) (As := [.int x4, .int x1]) (rest := [.int x3]) S (c_X9_goesTo l G a0 v0 x4 x1 _ hw) mf_X9_goesTo u_856 u_858 u_24 0 9 rfl rfl rfl rfl ⟨rfl, rfl⟩ ⟨Nat.le_of_ble_eq_true rfl, Nat.le_of_ble_eq_true rfl⟩ ⟨Nat.le_of_ble_eq_true rfl, Nat.le_of_ble_eq_true rfl⟩ (Nat.le_of_ble_eq_true rfl) dX9_cordsTo_17 (frW _) rfl (pb (fun r2 u3 br2 hw => ?_))
        refine v_to (wMod G a0 v0) 20 [(0, .ref a0.1), (1, .int x1), (2, .int x2), (3, .int x3), (4, .int x4)] _ [.int r2, .int x3] rfl rfl rfl rfl ?_
        refine v_if_eq (pc2 := 23) (tgt := 40) S dX9_cordsTo_20 (by decide) rfl (fun c4 => ?_) (fun c4 => ?_)
        · have hw := hw.1 c4
          refine v_iconst (v := 0) (pc2 := 41) S dX9_cordsTo_40 (by decide) rfl ?_
          refine v_iadd (pc2 := 42) S dX9_cordsTo_41 rfl ?_
          refine v_nm (fun z5 ez5 => ?_)
          have hw := hw z5 ez5
          refine v_istore_n (lv2 := [(0, .ref a0.1), (1, .int x1), (2, .int x2), (3, .int z5), (4, .int x4)]) (pc2 := 43) S dX9_cordsTo_42 rfl (by decide) [1, 2, 3, 0, 4] rfl rfl ?_
          obtain ⟨z6, ez6⟩ : ∃ y : Int32, y = x4 + (1 : Int32) := ⟨_, rfl⟩
          have hw := hw z6 ez6
          refine v_iinc (v := z6) (lv2 := [(0, .ref a0.1), (1, .int x1), (2, .int x2), (3, .int z5), (4, .int z6)]) (pc2 := 46) S 4 dX9_cordsTo_43 rfl (by rw [ez6]; rfl) (by decide) [1, 2, 3, 4, 0] rfl rfl ?_
          refine v_goto (tgt := 5) S dX9_cordsTo_46 (by decide) ?_
          exact ih z5 z6 hw
        · have hw := hw.2 c4
          refine v_iload_n (pc2 := 24) S 2 dX9_cordsTo_23 rfl rfl rfl ?_
          refine v_if_eq (pc2 := 27) (tgt := 36) S dX9_cordsTo_24 (by decide) rfl (fun c7 => ?_) (fun c7 => ?_)
          · have hw := hw.1 c7
            refine v_iconst (v := 1) (pc2 := 37) S dX9_cordsTo_36 (by decide) rfl ?_
            refine v_goto (tgt := 41) S dX9_cordsTo_37 (by decide) ?_
            refine v_iadd (pc2 := 42) S dX9_cordsTo_41 rfl ?_
            refine v_nm (fun z8 ez8 => ?_)
            have hw := hw z8 ez8
            refine v_istore_n (lv2 := [(0, .ref a0.1), (1, .int x1), (2, .int x2), (3, .int z8), (4, .int x4)]) (pc2 := 43) S dX9_cordsTo_42 rfl (by decide) [1, 2, 3, 0, 4] rfl rfl ?_
            obtain ⟨z9, ez9⟩ : ∃ y : Int32, y = x4 + (1 : Int32) := ⟨_, rfl⟩
            have hw := hw z9 ez9
            refine v_iinc (v := z9) (lv2 := [(0, .ref a0.1), (1, .int x1), (2, .int x2), (3, .int z8), (4, .int z9)]) (pc2 := 46) S 4 dX9_cordsTo_43 rfl (by rw [ez9]; rfl) (by decide) [1, 2, 3, 4, 0] rfl rfl ?_
            refine v_goto (tgt := 5) S dX9_cordsTo_46 (by decide) ?_
            exact ih z8 z9 hw
          · have hw := hw.2 c7
            refine v_aload_n (pc2 := 28) S 0 dX9_cordsTo_27 rfl rfl rfl ?_
            refine v_iload (pc2 := 30) S 4 dX9_cordsTo_28 rfl rfl ?_
            refine v_callV (pc2 := 33) (As := [.int x4]) (rest := [.int x3]) S (c_X9_isOpen l G a0 v0 x4 _ hw) mf_X9_isOpen u_848 u_850 u_22 0 9 rfl rfl rfl rfl ⟨rfl, rfl⟩ ⟨Nat.le_of_ble_eq_true rfl, Nat.le_of_ble_eq_true rfl⟩ ⟨Nat.le_of_ble_eq_true rfl, Nat.le_of_ble_eq_true rfl⟩ (Nat.le_of_ble_eq_true rfl) dX9_cordsTo_30 (frW _) rfl (pb (fun r10 u11 br10 hw => ?_))
            refine v_to (wMod G a0 v0) 33 [(0, .ref a0.1), (1, .int x1), (2, .int x2), (3, .int x3), (4, .int x4)] _ [.int r10, .int x3] rfl rfl rfl rfl ?_
            refine v_if_eq (pc2 := 36) (tgt := 40) S dX9_cordsTo_33 (by decide) rfl (fun c12 => ?_) (fun c12 => ?_)
            · have hw := hw.1 c12
              refine v_iconst (v := 0) (pc2 := 41) S dX9_cordsTo_40 (by decide) rfl ?_
              refine v_iadd (pc2 := 42) S dX9_cordsTo_41 rfl ?_
              refine v_nm (fun z13 ez13 => ?_)
              have hw := hw z13 ez13
              refine v_istore_n (lv2 := [(0, .ref a0.1), (1, .int x1), (2, .int x2), (3, .int z13), (4, .int x4)]) (pc2 := 43) S dX9_cordsTo_42 rfl (by decide) [1, 2, 3, 0, 4] rfl rfl ?_
              obtain ⟨z14, ez14⟩ : ∃ y : Int32, y = x4 + (1 : Int32) := ⟨_, rfl⟩
              have hw := hw z14 ez14
              refine v_iinc (v := z14) (lv2 := [(0, .ref a0.1), (1, .int x1), (2, .int x2), (3, .int z13), (4, .int z14)]) (pc2 := 46) S 4 dX9_cordsTo_43 rfl (by rw [ez14]; rfl) (by decide) [1, 2, 3, 4, 0] rfl rfl ?_
              refine v_goto (tgt := 5) S dX9_cordsTo_46 (by decide) ?_
              exact ih z13 z14 hw
            · have hw := hw.2 c12
              refine v_iconst (v := 1) (pc2 := 37) S dX9_cordsTo_36 (by decide) rfl ?_
              refine v_goto (tgt := 41) S dX9_cordsTo_37 (by decide) ?_
              refine v_iadd (pc2 := 42) S dX9_cordsTo_41 rfl ?_
              refine v_nm (fun z15 ez15 => ?_)
              have hw := hw z15 ez15
              refine v_istore_n (lv2 := [(0, .ref a0.1), (1, .int x1), (2, .int x2), (3, .int z15), (4, .int x4)]) (pc2 := 43) S dX9_cordsTo_42 rfl (by decide) [1, 2, 3, 0, 4] rfl rfl ?_
              obtain ⟨z16, ez16⟩ : ∃ y : Int32, y = x4 + (1 : Int32) := ⟨_, rfl⟩
              have hw := hw z16 ez16
              refine v_iinc (v := z16) (lv2 := [(0, .ref a0.1), (1, .int x1), (2, .int x2), (3, .int z15), (4, .int z16)]) (pc2 := 46) S 4 dX9_cordsTo_43 rfl (by rw [ez16]; rfl) (by decide) [1, 2, 3, 4, 0] rfl rfl ?_
              refine v_goto (tgt := 5) S dX9_cordsTo_46 (by decide) ?_
              exact ih z15 z16 hw
  refine v_iconst (v := 0) (pc2 := 1) S dX9_cordsTo_0 (by decide) rfl ?_
  refine v_istore_n (lv2 := [(0, .ref a0.1), (1, .int i0), (2, .int i1), (3, .int (0 : Int32))]) (pc2 := 2) S dX9_cordsTo_1 rfl (by decide) [1, 2, 3, 0] rfl rfl ?_
  refine v_iconst (v := 0) (pc2 := 3) S dX9_cordsTo_2 (by decide) rfl ?_
  refine v_istore (lv2 := [(0, .ref a0.1), (1, .int i0), (2, .int i1), (3, .int (0 : Int32)), (4, .int (0 : Int32))]) (pc2 := 5) S dX9_cordsTo_3 (by decide) [1, 2, 3, 4, 0] rfl rfl ?_
  obtain ⟨kk, hw⟩ := hw
  exact L5 i0 i1 kk (0 : Int32) (0 : Int32) hw
set_option maxHeartbeats 4000000 in
set_option maxRecDepth 100000 in
theorem c_X9_reason (l : Launch) (G : GG) (a0 : ModA) (v0 : ModV) (i0 : Int32) (Q : Int32 → Prop) (hw : wp_X9_reason v0 i0 Q) : Con l G yX9_reason cX9_reason 2 (some .int) { frames := 3, cells := 0, slots := 0, locals := 68 } [.ref a0.1, .int i0] (wMod G a0 v0) (PI (fun _ : Unit => wMod G a0 v0) (fun r _ => Q r)) 0 0 := by
  refine con_of RX9 rfl (by decide) [(0, .ref a0.1), (1, .int i0)] rfl (Nat.le_of_ble_eq_true rfl) ?_
  intro p e s m args below meth c S hname
  refine v_aload_n (pc2 := 1) S 0 dX9_reason_0 rfl rfl rfl ?_
  refine v_iload_n (pc2 := 2) S 1 dX9_reason_1 rfl rfl rfl ?_
  refine v_callV (pc2 := 5) (As := [.int i0]) (rest := []) S (c_X9_isOpen l G a0 v0 i0 _ hw) mf_X9_isOpen u_848 u_850 u_22 0 9 rfl rfl rfl rfl ⟨rfl, rfl⟩ ⟨Nat.le_of_ble_eq_true rfl, Nat.le_of_ble_eq_true rfl⟩ ⟨Nat.le_of_ble_eq_true rfl, Nat.le_of_ble_eq_true rfl⟩ (Nat.le_of_ble_eq_true rfl) dX9_reason_2 (frW _) rfl (pb (fun r1 u2 br1 hw => ?_))
  refine v_to (wMod G a0 v0) 5 [(0, .ref a0.1), (1, .int i0)] _ [.int r1] rfl rfl rfl rfl ?_
  refine v_if_eq (pc2 := 8) (tgt := 12) S dX9_reason_5 (by decide) rfl (fun c3 => ?_) (fun c3 => ?_)
  · have hw := hw.1 c3
    refine v_aload_n (pc2 := 13) S 0 dX9_reason_12 rfl rfl rfl ?_
    refine v_iload_n (pc2 := 14) S 1 dX9_reason_13 rfl rfl rfl ?_
    refine v_iconst (v := 1) (pc2 := 15) S dX9_reason_14 (by decide) rfl ?_
    refine v_callV (pc2 := 18) (As := [.int i0, .int (1 : Int32)]) (rest := []) S (c_X9_cordsTo l G a0 v0 i0 (1 : Int32) _ hw) mf_X9_cordsTo u_852 u_854 u_23 0 9 rfl rfl rfl rfl ⟨rfl, rfl⟩ ⟨Nat.le_of_ble_eq_true rfl, Nat.le_of_ble_eq_true rfl⟩ ⟨Nat.le_of_ble_eq_true rfl, Nat.le_of_ble_eq_true rfl⟩ (Nat.le_of_ble_eq_true rfl) dX9_reason_15 (frW _) rfl (pi (fun r4 u5 hw => ?_))
    refine v_to (wMod G a0 v0) 18 [(0, .ref a0.1), (1, .int i0)] _ [.int r4] rfl rfl rfl rfl ?_
    refine v_if_le (pc2 := 21) (tgt := 25) S dX9_reason_18 (by decide) rfl (fun c6 => ?_) (fun c6 => ?_)
    · have hw := hw.1 c6
      refine v_iconst (v := 0) (pc2 := 26) S dX9_reason_25 (by decide) rfl ?_
      exact v_iret S ⟨(0 : Int32), (), rfl, rfl, hw⟩ dX9_reason_26
    · have hw := hw.2 c6
      refine v_iconst (v := 2) (pc2 := 22) S dX9_reason_21 (by decide) rfl ?_
      refine v_goto (tgt := 26) S dX9_reason_22 (by decide) ?_
      exact v_iret S ⟨(2 : Int32), (), rfl, rfl, hw⟩ dX9_reason_26
  · have hw := hw.2 c3
    refine v_iconst (v := 1) (pc2 := 9) S dX9_reason_8 (by decide) rfl ?_
    refine v_goto (tgt := 26) S dX9_reason_9 (by decide) ?_
    exact v_iret S ⟨(1 : Int32), (), rfl, rfl, hw⟩ dX9_reason_26
set_option maxHeartbeats 4000000 in
set_option maxRecDepth 100000 in
theorem c_X9_openIn (l : Launch) (G : GG) (a0 : ModA) (v0 : ModV) (i0 : Int32) (Q : Int32 → Prop) (hw : wp_X9_openIn v0 i0 Q) : Con l G yX9_openIn cX9_openIn 4 (some .int) { frames := 2, cells := 0, slots := 0, locals := 44 } [.ref a0.1, .int i0] (wMod G a0 v0) (PI (fun _ : Unit => wMod G a0 v0) (fun r _ => Q r)) 0 0 := by
  refine con_of RX9 rfl (by decide) [(0, .ref a0.1), (1, .int i0)] rfl (Nat.le_of_ble_eq_true rfl) ?_
  intro p e s m args below meth c S hname
  have L4 : ∀ (x1 : Int32) (kk : Nat) (x2 : Int32) (x3 : Int32), wp_X9_openIn_L4 v0 x1 Q kk x2 x3 → V p l e { frames := 2, cells := 0, slots := 0, locals := 44 } s m args below meth c G (va_A (wMod G a0 v0) s.heap.size) 4 0 0 (MQ below (EQ G (wMod G a0 v0) s.heap.size (PI (fun _ : Unit => wMod G a0 v0) (fun r _ => Q r))) args s 0 0 (va_A (wMod G a0 v0) s.heap.size)) (wMod G a0 v0) 4 [(0, .ref a0.1), (1, .int x1), (2, .int x2), (3, .int x3)] [] := by
    intro x1 kk
    induction kk with
    | zero => intro x2 x3 hw; exact hw.elim
    | succ n ih =>
      intro x2 x3 hw
      refine v_iload_n (pc2 := 5) S 3 dX9_openIn_4 rfl rfl rfl ?_
      refine v_bipush (v := 10) (pc2 := 7) S dX9_openIn_5 (by decide) rfl ?_
      refine v_icmp_ge (pc2 := 10) (tgt := 41) S dX9_openIn_7 (by decide) rfl (fun c1 => ?_) (fun c1 => ?_)
      · have hw := hw.1 c1
        refine v_iload_n (pc2 := 42) S 2 dX9_openIn_41 rfl rfl rfl ?_
        exact v_iret S ⟨x2, (), rfl, rfl, hw⟩ dX9_openIn_42
      · have hw := hw.2 c1
        refine v_iload_n (pc2 := 11) S 2 dX9_openIn_10 rfl rfl rfl ?_
        refine v_aload_n (pc2 := 12) S 0 dX9_openIn_11 rfl rfl rfl ?_
        refine v_iload_n (pc2 := 13) S 3 dX9_openIn_12 rfl rfl rfl ?_
        refine v_callV (pc2 := 16) (As := [.int x3]) (rest := [.int x2]) S (c_X9_isOpen l G a0 v0 x3 _ hw) mf_X9_isOpen u_848 u_850 u_22 0 9 rfl rfl rfl rfl ⟨rfl, rfl⟩ ⟨Nat.le_of_ble_eq_true rfl, Nat.le_of_ble_eq_true rfl⟩ ⟨Nat.le_of_ble_eq_true rfl, Nat.le_of_ble_eq_true rfl⟩ (Nat.le_of_ble_eq_true rfl) dX9_openIn_13 (frW _) rfl (pb (fun r2 u3 br2 hw => ?_))
        refine v_to (wMod G a0 v0) 16 [(0, .ref a0.1), (1, .int x1), (2, .int x2), (3, .int x3)] _ [.int r2, .int x2] rfl rfl rfl rfl ?_
        refine v_if_eq (pc2 := 19) (tgt := 32) S dX9_openIn_16 (by decide) rfl (fun c4 => ?_) (fun c4 => ?_)
        · have hw := hw.1 c4
          refine v_iconst (v := 0) (pc2 := 33) S dX9_openIn_32 (by decide) rfl ?_
          refine v_iadd (pc2 := 34) S dX9_openIn_33 rfl ?_
          refine v_nm (fun z5 ez5 => ?_)
          have hw := hw z5 ez5
          refine v_istore_n (lv2 := [(0, .ref a0.1), (1, .int x1), (2, .int z5), (3, .int x3)]) (pc2 := 35) S dX9_openIn_34 rfl (by decide) [1, 2, 0, 3] rfl rfl ?_
          obtain ⟨z6, ez6⟩ : ∃ y : Int32, y = x3 + (1 : Int32) := ⟨_, rfl⟩
          have hw := hw z6 ez6
          refine v_iinc (v := z6) (lv2 := [(0, .ref a0.1), (1, .int x1), (2, .int z5), (3, .int z6)]) (pc2 := 38) S 3 dX9_openIn_35 rfl (by rw [ez6]; rfl) (by decide) [1, 2, 3, 0] rfl rfl ?_
          refine v_goto (tgt := 4) S dX9_openIn_38 (by decide) ?_
          exact ih z5 z6 hw
        · have hw := hw.2 c4
          refine v_aload_n (pc2 := 20) S 0 dX9_openIn_19 rfl rfl rfl ?_
          refine v_iload_n (pc2 := 21) S 3 dX9_openIn_20 rfl rfl rfl ?_
          refine v_iload_n (pc2 := 22) S 1 dX9_openIn_21 rfl rfl rfl ?_
          refine v_callV (pc2 := 25) (As := [.int x3, .int x1]) (rest := [.int x2]) S (c_X9_joins l G a0 v0 x3 x1 _ hw) mf_X9_joins u_876 u_878 u_29 0 9 rfl rfl rfl rfl ⟨rfl, rfl⟩ ⟨Nat.le_of_ble_eq_true rfl, Nat.le_of_ble_eq_true rfl⟩ ⟨Nat.le_of_ble_eq_true rfl, Nat.le_of_ble_eq_true rfl⟩ (Nat.le_of_ble_eq_true rfl) dX9_openIn_22 (frW _) rfl (pb (fun r7 u8 br7 hw => ?_))
          refine v_to (wMod G a0 v0) 25 [(0, .ref a0.1), (1, .int x1), (2, .int x2), (3, .int x3)] _ [.int r7, .int x2] rfl rfl rfl rfl ?_
          refine v_if_eq (pc2 := 28) (tgt := 32) S dX9_openIn_25 (by decide) rfl (fun c9 => ?_) (fun c9 => ?_)
          · have hw := hw.1 c9
            refine v_iconst (v := 0) (pc2 := 33) S dX9_openIn_32 (by decide) rfl ?_
            refine v_iadd (pc2 := 34) S dX9_openIn_33 rfl ?_
            refine v_nm (fun z10 ez10 => ?_)
            have hw := hw z10 ez10
            refine v_istore_n (lv2 := [(0, .ref a0.1), (1, .int x1), (2, .int z10), (3, .int x3)]) (pc2 := 35) S dX9_openIn_34 rfl (by decide) [1, 2, 0, 3] rfl rfl ?_
            obtain ⟨z11, ez11⟩ : ∃ y : Int32, y = x3 + (1 : Int32) := ⟨_, rfl⟩
            have hw := hw z11 ez11
            refine v_iinc (v := z11) (lv2 := [(0, .ref a0.1), (1, .int x1), (2, .int z10), (3, .int z11)]) (pc2 := 38) S 3 dX9_openIn_35 rfl (by rw [ez11]; rfl) (by decide) [1, 2, 3, 0] rfl rfl ?_
            refine v_goto (tgt := 4) S dX9_openIn_38 (by decide) ?_
            exact ih z10 z11 hw
          · have hw := hw.2 c9
            refine v_iconst (v := 1) (pc2 := 29) S dX9_openIn_28 (by decide) rfl ?_
            refine v_goto (tgt := 33) S dX9_openIn_29 (by decide) ?_
            refine v_iadd (pc2 := 34) S dX9_openIn_33 rfl ?_
            refine v_nm (fun z12 ez12 => ?_)
            have hw := hw z12 ez12
            refine v_istore_n (lv2 := [(0, .ref a0.1), (1, .int x1), (2, .int z12), (3, .int x3)]) (pc2 := 35) S dX9_openIn_34 rfl (by decide) [1, 2, 0, 3] rfl rfl ?_
            obtain ⟨z13, ez13⟩ : ∃ y : Int32, y = x3 + (1 : Int32) := ⟨_, rfl⟩
            have hw := hw z13 ez13
            refine v_iinc (v := z13) (lv2 := [(0, .ref a0.1), (1, .int x1), (2, .int z12), (3, .int z13)]) (pc2 := 38) S 3 dX9_openIn_35 rfl (by rw [ez13]; rfl) (by decide) [1, 2, 3, 0] rfl rfl ?_
            refine v_goto (tgt := 4) S dX9_openIn_38 (by decide) ?_
            exact ih z12 z13 hw
  refine v_iconst (v := 0) (pc2 := 1) S dX9_openIn_0 (by decide) rfl ?_
  refine v_istore_n (lv2 := [(0, .ref a0.1), (1, .int i0), (2, .int (0 : Int32))]) (pc2 := 2) S dX9_openIn_1 rfl (by decide) [1, 2, 0] rfl rfl ?_
  refine v_iconst (v := 0) (pc2 := 3) S dX9_openIn_2 (by decide) rfl ?_
  refine v_istore_n (lv2 := [(0, .ref a0.1), (1, .int i0), (2, .int (0 : Int32)), (3, .int (0 : Int32))]) (pc2 := 4) S dX9_openIn_3 rfl (by decide) [1, 2, 3, 0] rfl rfl ?_
  obtain ⟨kk, hw⟩ := hw
  exact L4 i0 kk (0 : Int32) (0 : Int32) hw
set_option maxHeartbeats 4000000 in
set_option maxRecDepth 100000 in
theorem c_X9_shuts (l : Launch) (G : GG) (a0 : ModA) (v0 : ModV) (i0 : Int32) (i1 : Int32) (Q : ModV → Prop) (hw : wp_X9_shuts v0 i0 i1 Q) : Con l G yX9_shuts cX9_shuts 3 none { frames := 1, cells := 0, slots := 0, locals := 23 } [.ref a0.1, .int i0, .int i1] (wMod G a0 v0) (PV (fun u : ModV => wMod G a0 u) Q) 0 0 := by
  refine con_of RX9 rfl (by decide) [(0, .ref a0.1), (1, .int i0), (2, .int i1)] rfl (Nat.le_of_ble_eq_true rfl) ?_
  intro p e s m args below meth c S hname
  refine v_aload_n (pc2 := 1) S 0 dX9_shuts_0 rfl rfl rfl ?_
  refine v_iload_n (pc2 := 2) S 1 dX9_shuts_1 rfl rfl rfl ?_
  refine v_iconst (v := 0) (pc2 := 3) S dX9_shuts_2 (by decide) rfl ?_
  refine v_iconst (v := 0) (pc2 := 4) S dX9_shuts_3 (by decide) rfl ?_
  refine v_callV (pc2 := 7) (As := [.int i0, .int (0 : Int32), .int (0 : Int32)]) (rest := []) S (c_X9_lay l G a0 v0 i0 (0 : Int32) (0 : Int32) _ hw) mf_X9_lay u_747 u_749 u_16 0 9 rfl rfl rfl rfl ⟨rfl, rfl⟩ ⟨Nat.le_of_ble_eq_true rfl, Nat.le_of_ble_eq_true rfl⟩ ⟨Nat.le_of_ble_eq_true rfl, Nat.le_of_ble_eq_true rfl⟩ (Nat.le_of_ble_eq_true rfl) dX9_shuts_4 (frW _) rfl (pv (fun u2 hw => ?_))
  refine v_to (wMod G a0 u2) 7 [(0, .ref a0.1), (1, .int i0), (2, .int i1)] _ [] rfl rfl rfl rfl ?_
  refine v_aload_n (pc2 := 8) S 0 dX9_shuts_7 rfl rfl rfl ?_
  refine v_iload_n (pc2 := 9) S 1 dX9_shuts_8 rfl rfl rfl ?_
  refine v_bipush (v := 6) (pc2 := 11) S dX9_shuts_9 (by decide) rfl ?_
  refine v_aload_n (pc2 := 12) S 0 dX9_shuts_11 rfl rfl rfl ?_
  refine v_iload_n (pc2 := 13) S 1 dX9_shuts_12 rfl rfl rfl ?_
  refine v_bipush (v := 6) (pc2 := 15) S dX9_shuts_13 (by decide) rfl ?_
  refine v_callV (pc2 := 18) (As := [.int i0, .int (6 : Int32)]) (rest := [.int (6 : Int32), .int i0, .ref a0.1]) S (c_X9_of l G a0 u2 i0 (6 : Int32) _ hw) mf_X9_of u_818 u_820 u_18 0 9 rfl rfl rfl rfl ⟨rfl, rfl⟩ ⟨Nat.le_of_ble_eq_true rfl, Nat.le_of_ble_eq_true rfl⟩ ⟨Nat.le_of_ble_eq_true rfl, Nat.le_of_ble_eq_true rfl⟩ (Nat.le_of_ble_eq_true rfl) dX9_shuts_15 (frW _) rfl (pi (fun r3 u4 hw => ?_))
  refine v_to (wMod G a0 u2) 18 [(0, .ref a0.1), (1, .int i0), (2, .int i1)] _ [.int r3, .int (6 : Int32), .int i0, .ref a0.1] rfl rfl rfl rfl ?_
  refine v_iconst (v := 1) (pc2 := 19) S dX9_shuts_18 (by decide) rfl ?_
  refine v_iadd (pc2 := 20) S dX9_shuts_19 rfl ?_
  refine v_callV (pc2 := 23) (As := [.int i0, .int (6 : Int32), .int (r3 + (1 : Int32))]) (rest := []) S (c_X9_lay l G a0 u2 i0 (6 : Int32) (r3 + (1 : Int32)) _ hw) mf_X9_lay u_747 u_749 u_16 0 9 rfl rfl rfl rfl ⟨rfl, rfl⟩ ⟨Nat.le_of_ble_eq_true rfl, Nat.le_of_ble_eq_true rfl⟩ ⟨Nat.le_of_ble_eq_true rfl, Nat.le_of_ble_eq_true rfl⟩ (Nat.le_of_ble_eq_true rfl) dX9_shuts_20 (frW _) rfl (pv (fun u6 hw => ?_))
  refine v_to (wMod G a0 u6) 23 [(0, .ref a0.1), (1, .int i0), (2, .int i1)] _ [] rfl rfl rfl rfl ?_
  refine v_aload_n (pc2 := 24) S 0 dX9_shuts_23 rfl rfl rfl ?_
  refine v_get (v := .ref a0.2.1) (pc2 := 27) S gf_X9_7 0 rfl rfl dX9_shuts_24 rfl ?_
  refine v_iload_n (pc2 := 28) S 2 dX9_shuts_27 rfl rfl rfl ?_
  refine v_dup2 (pc2 := 29) S dX9_shuts_28 rfl rfl rfl ?_
  obtain ⟨h7, hw⟩ := hw
  refine v_iald (pc2 := 30) S 1 rfl h7 dX9_shuts_29 rfl ?_
  refine v_iconst (v := 1) (pc2 := 31) S dX9_shuts_30 (by decide) rfl ?_
  refine v_iadd (pc2 := 32) S dX9_shuts_31 rfl ?_
  obtain ⟨h8, hw⟩ := hw
  obtain ⟨g9, eg9⟩ : ∃ y : Nat → Int32, y = upd u6.1 i1.toNatClampNeg ((u6.1 i1.toNatClampNeg) + (1 : Int32)) := ⟨_, rfl⟩
  have hw := hw g9 eg9
  refine v_iast (ws2 := wMod G a0 (g9, u6.2.1, u6.2.2.1, u6.2.2.2.1, u6.2.2.2.2.1, u6.2.2.2.2.2.1, u6.2.2.2.2.2.2.1, u6.2.2.2.2.2.2.2.1, u6.2.2.2.2.2.2.2.2.1, u6.2.2.2.2.2.2.2.2.2.1, u6.2.2.2.2.2.2.2.2.2.2.1, u6.2.2.2.2.2.2.2.2.2.2.2.1, u6.2.2.2.2.2.2.2.2.2.2.2.2.1, u6.2.2.2.2.2.2.2.2.2.2.2.2.2.1, u6.2.2.2.2.2.2.2.2.2.2.2.2.2.2.1, u6.2.2.2.2.2.2.2.2.2.2.2.2.2.2.2.1, u6.2.2.2.2.2.2.2.2.2.2.2.2.2.2.2.2)) (pc2 := 33) S 1 rfl h8 (by rw [eg9] <;> rfl) dX9_shuts_32 rfl ?_
  exact v_vret S ⟨(g9, u6.2.1, u6.2.2.1, u6.2.2.2.1, u6.2.2.2.2.1, u6.2.2.2.2.2.1, u6.2.2.2.2.2.2.1, u6.2.2.2.2.2.2.2.1, u6.2.2.2.2.2.2.2.2.1, u6.2.2.2.2.2.2.2.2.2.1, u6.2.2.2.2.2.2.2.2.2.2.1, u6.2.2.2.2.2.2.2.2.2.2.2.1, u6.2.2.2.2.2.2.2.2.2.2.2.2.1, u6.2.2.2.2.2.2.2.2.2.2.2.2.2.1, u6.2.2.2.2.2.2.2.2.2.2.2.2.2.2.1, u6.2.2.2.2.2.2.2.2.2.2.2.2.2.2.2.1, u6.2.2.2.2.2.2.2.2.2.2.2.2.2.2.2.2), rfl, rfl, hw⟩ dX9_shuts_33
set_option maxHeartbeats 4000000 in
set_option maxRecDepth 100000 in
theorem c_X9_lowestIn (l : Launch) (G : GG) (a0 : ModA) (v0 : ModV) (i0 : Int32) (i1 : Int32) (Q : Int32 → Prop) (hw : wp_X9_lowestIn v0 i0 i1 Q) : Con l G yX9_lowestIn cX9_lowestIn 5 (some .int) { frames := 2, cells := 0, slots := 0, locals := 44 } [.ref a0.1, .int i0, .int i1] (wMod G a0 v0) (PI (fun _ : Unit => wMod G a0 v0) (fun r _ => Q r)) 0 0 := by
  refine con_of RX9 rfl (by decide) [(0, .ref a0.1), (1, .int i0), (2, .int i1)] rfl (Nat.le_of_ble_eq_true rfl) ?_
  intro p e s m args below meth c S hname
  have L7 : ∀ (x1 : Int32) (x2 : Int32) (kk : Nat) (x3 : Int32) (x4 : Int32), wp_X9_lowestIn_L7 v0 x1 x2 Q kk x3 x4 → V p l e { frames := 2, cells := 0, slots := 0, locals := 44 } s m args below meth c G (va_A (wMod G a0 v0) s.heap.size) 5 0 0 (MQ below (EQ G (wMod G a0 v0) s.heap.size (PI (fun _ : Unit => wMod G a0 v0) (fun r _ => Q r))) args s 0 0 (va_A (wMod G a0 v0) s.heap.size)) (wMod G a0 v0) 7 [(0, .ref a0.1), (1, .int x1), (2, .int x2), (3, .int x3), (4, .int x4)] [] := by
    intro x1 x2 kk
    induction kk with
    | zero => intro x3 x4 hw; exact hw.elim
    | succ n ih =>
      intro x3 x4 hw
      refine v_iload (pc2 := 9) S 4 dX9_lowestIn_7 rfl rfl ?_
      refine v_if_lt (pc2 := 12) (tgt := 50) S dX9_lowestIn_9 (by decide) rfl (fun c1 => ?_) (fun c1 => ?_)
      · have hw := hw.1 c1
        refine v_iload_n (pc2 := 51) S 3 dX9_lowestIn_50 rfl rfl rfl ?_
        exact v_iret S ⟨x3, (), rfl, rfl, hw⟩ dX9_lowestIn_51
      · have hw := hw.2 c1
        refine v_iload (pc2 := 14) S 4 dX9_lowestIn_12 rfl rfl ?_
        refine v_iload_n (pc2 := 15) S 2 dX9_lowestIn_14 rfl rfl rfl ?_
        refine v_icmp_eq (pc2 := 18) (tgt := 42) S dX9_lowestIn_15 (by decide) rfl (fun c2 => ?_) (fun c2 => ?_)
        · have hw := hw.1 c2
          refine v_iload_n (pc2 := 43) S 3 dX9_lowestIn_42 rfl rfl rfl ?_
          refine v_istore_n (lv2 := [(0, .ref a0.1), (1, .int x1), (2, .int x2), (3, .int x3), (4, .int x4)]) (pc2 := 44) S dX9_lowestIn_43 rfl (by decide) [1, 2, 3, 0, 4] rfl rfl ?_
          obtain ⟨z3, ez3⟩ : ∃ y : Int32, y = x4 + (-1 : Int32) := ⟨_, rfl⟩
          have hw := hw z3 ez3
          refine v_iinc (v := z3) (lv2 := [(0, .ref a0.1), (1, .int x1), (2, .int x2), (3, .int x3), (4, .int z3)]) (pc2 := 47) S 4 dX9_lowestIn_44 rfl (by rw [ez3]; rfl) (by decide) [1, 2, 3, 4, 0] rfl rfl ?_
          refine v_goto (tgt := 7) S dX9_lowestIn_47 (by decide) ?_
          exact ih x3 z3 hw
        · have hw := hw.2 c2
          refine v_aload_n (pc2 := 19) S 0 dX9_lowestIn_18 rfl rfl rfl ?_
          refine v_iload (pc2 := 21) S 4 dX9_lowestIn_19 rfl rfl ?_
          refine v_callV (pc2 := 24) (As := [.int x4]) (rest := []) S (c_X9_isOpen l G a0 v0 x4 _ hw) mf_X9_isOpen u_848 u_850 u_22 0 9 rfl rfl rfl rfl ⟨rfl, rfl⟩ ⟨Nat.le_of_ble_eq_true rfl, Nat.le_of_ble_eq_true rfl⟩ ⟨Nat.le_of_ble_eq_true rfl, Nat.le_of_ble_eq_true rfl⟩ (Nat.le_of_ble_eq_true rfl) dX9_lowestIn_21 (frW _) rfl (pb (fun r4 u5 br4 hw => ?_))
          refine v_to (wMod G a0 v0) 24 [(0, .ref a0.1), (1, .int x1), (2, .int x2), (3, .int x3), (4, .int x4)] _ [.int r4] rfl rfl rfl rfl ?_
          refine v_if_eq (pc2 := 27) (tgt := 42) S dX9_lowestIn_24 (by decide) rfl (fun c6 => ?_) (fun c6 => ?_)
          · have hw := hw.1 c6
            refine v_iload_n (pc2 := 43) S 3 dX9_lowestIn_42 rfl rfl rfl ?_
            refine v_istore_n (lv2 := [(0, .ref a0.1), (1, .int x1), (2, .int x2), (3, .int x3), (4, .int x4)]) (pc2 := 44) S dX9_lowestIn_43 rfl (by decide) [1, 2, 3, 0, 4] rfl rfl ?_
            obtain ⟨z7, ez7⟩ : ∃ y : Int32, y = x4 + (-1 : Int32) := ⟨_, rfl⟩
            have hw := hw z7 ez7
            refine v_iinc (v := z7) (lv2 := [(0, .ref a0.1), (1, .int x1), (2, .int x2), (3, .int x3), (4, .int z7)]) (pc2 := 47) S 4 dX9_lowestIn_44 rfl (by rw [ez7]; rfl) (by decide) [1, 2, 3, 4, 0] rfl rfl ?_
            refine v_goto (tgt := 7) S dX9_lowestIn_47 (by decide) ?_
            exact ih x3 z7 hw
          · have hw := hw.2 c6
            refine v_aload_n (pc2 := 28) S 0 dX9_lowestIn_27 rfl rfl rfl ?_
            refine v_iload (pc2 := 30) S 4 dX9_lowestIn_28 rfl rfl ?_
            refine v_iload_n (pc2 := 31) S 1 dX9_lowestIn_30 rfl rfl rfl ?_
            refine v_callV (pc2 := 34) (As := [.int x4, .int x1]) (rest := []) S (c_X9_joins l G a0 v0 x4 x1 _ hw) mf_X9_joins u_876 u_878 u_29 0 9 rfl rfl rfl rfl ⟨rfl, rfl⟩ ⟨Nat.le_of_ble_eq_true rfl, Nat.le_of_ble_eq_true rfl⟩ ⟨Nat.le_of_ble_eq_true rfl, Nat.le_of_ble_eq_true rfl⟩ (Nat.le_of_ble_eq_true rfl) dX9_lowestIn_31 (frW _) rfl (pb (fun r8 u9 br8 hw => ?_))
            refine v_to (wMod G a0 v0) 34 [(0, .ref a0.1), (1, .int x1), (2, .int x2), (3, .int x3), (4, .int x4)] _ [.int r8] rfl rfl rfl rfl ?_
            refine v_if_eq (pc2 := 37) (tgt := 42) S dX9_lowestIn_34 (by decide) rfl (fun c10 => ?_) (fun c10 => ?_)
            · have hw := hw.1 c10
              refine v_iload_n (pc2 := 43) S 3 dX9_lowestIn_42 rfl rfl rfl ?_
              refine v_istore_n (lv2 := [(0, .ref a0.1), (1, .int x1), (2, .int x2), (3, .int x3), (4, .int x4)]) (pc2 := 44) S dX9_lowestIn_43 rfl (by decide) [1, 2, 3, 0, 4] rfl rfl ?_
              obtain ⟨z11, ez11⟩ : ∃ y : Int32, y = x4 + (-1 : Int32) := ⟨_, rfl⟩
              have hw := hw z11 ez11
              refine v_iinc (v := z11) (lv2 := [(0, .ref a0.1), (1, .int x1), (2, .int x2), (3, .int x3), (4, .int z11)]) (pc2 := 47) S 4 dX9_lowestIn_44 rfl (by rw [ez11]; rfl) (by decide) [1, 2, 3, 4, 0] rfl rfl ?_
              refine v_goto (tgt := 7) S dX9_lowestIn_47 (by decide) ?_
              exact ih x3 z11 hw
            · have hw := hw.2 c10
              refine v_iload (pc2 := 39) S 4 dX9_lowestIn_37 rfl rfl ?_
              refine v_goto (tgt := 43) S dX9_lowestIn_39 (by decide) ?_
              refine v_istore_n (lv2 := [(0, .ref a0.1), (1, .int x1), (2, .int x2), (3, .int x4), (4, .int x4)]) (pc2 := 44) S dX9_lowestIn_43 rfl (by decide) [1, 2, 3, 0, 4] rfl rfl ?_
              obtain ⟨z12, ez12⟩ : ∃ y : Int32, y = x4 + (-1 : Int32) := ⟨_, rfl⟩
              have hw := hw z12 ez12
              refine v_iinc (v := z12) (lv2 := [(0, .ref a0.1), (1, .int x1), (2, .int x2), (3, .int x4), (4, .int z12)]) (pc2 := 47) S 4 dX9_lowestIn_44 rfl (by rw [ez12]; rfl) (by decide) [1, 2, 3, 4, 0] rfl rfl ?_
              refine v_goto (tgt := 7) S dX9_lowestIn_47 (by decide) ?_
              exact ih x4 z12 hw
  refine v_bipush (v := -4) (pc2 := 2) S dX9_lowestIn_0 (by decide) rfl ?_
  refine v_istore_n (lv2 := [(0, .ref a0.1), (1, .int i0), (2, .int i1), (3, .int (-4 : Int32))]) (pc2 := 3) S dX9_lowestIn_2 rfl (by decide) [1, 2, 3, 0] rfl rfl ?_
  refine v_bipush (v := 9) (pc2 := 5) S dX9_lowestIn_3 (by decide) rfl ?_
  refine v_istore (lv2 := [(0, .ref a0.1), (1, .int i0), (2, .int i1), (3, .int (-4 : Int32)), (4, .int (9 : Int32))]) (pc2 := 7) S dX9_lowestIn_5 (by decide) [1, 2, 3, 4, 0] rfl rfl ?_
  obtain ⟨kk, hw⟩ := hw
  exact L7 i0 i1 kk (-4 : Int32) (9 : Int32) hw
set_option maxHeartbeats 4000000 in
set_option maxRecDepth 100000 in
theorem c_X9_opens (l : Launch) (G : GG) (a0 : ModA) (v0 : ModV) (i0 : Int32) (Q : Int32 → ModV → Prop) (hw : wp_X9_opens v0 i0 Q) : Con l G yX9_opens cX9_opens 4 (some .int) { frames := 3, cells := 0, slots := 0, locals := 68 } [.ref a0.1, .int i0] (wMod G a0 v0) (PI (fun u : ModV => wMod G a0 u) Q) 0 0 := by
  refine con_of RX9 rfl (by decide) [(0, .ref a0.1), (1, .int i0)] rfl (Nat.le_of_ble_eq_true rfl) ?_
  intro p e s m args below meth c S hname
  have L81 : ∀ (x1 : Int32) (x3 : Int32) (K75 : Int32 → Int32 → ModV → Prop) (hK75 : ∀ (y0 : Int32) (y1 : Int32) (y2 : ModV), K75 y0 y1 y2 → V p l e { frames := 3, cells := 0, slots := 0, locals := 68 } s m args below meth c G (va_A (wMod G a0 v0) s.heap.size) 4 0 0 (MQ below (EQ G (wMod G a0 v0) s.heap.size (PI (fun u : ModV => wMod G a0 u) Q)) args s 0 0 (va_A (wMod G a0 v0) s.heap.size)) (wMod G a0 y2) 75 [(0, .ref a0.1), (1, .int x1), (2, .int y0), (3, .int y1)] []) (kk : Nat) (x2 : Int32) (w0 : ModV), wp_X9_opens_L81 x1 x3 Q K75 kk x2 w0 → V p l e { frames := 3, cells := 0, slots := 0, locals := 68 } s m args below meth c G (va_A (wMod G a0 v0) s.heap.size) 4 0 0 (MQ below (EQ G (wMod G a0 v0) s.heap.size (PI (fun u : ModV => wMod G a0 u) Q)) args s 0 0 (va_A (wMod G a0 v0) s.heap.size)) (wMod G a0 w0) 81 [(0, .ref a0.1), (1, .int x1), (2, .int x2), (3, .int x3)] [] := by
    intro x1 x3 K75 hK75 kk
    induction kk with
    | zero => intro x2 w0 hw; exact hw.elim
    | succ n ih =>
      intro x2 w0 hw
      refine v_aload_n (pc2 := 82) S 0 dX9_opens_81 rfl rfl rfl ?_
      refine v_iload_n (pc2 := 83) S 3 dX9_opens_82 rfl rfl rfl ?_
      refine v_callV (pc2 := 86) (As := [.int x3]) (rest := []) S (c_X9_openIn l G a0 w0 x3 _ hw) mf_X9_openIn u_872 u_874 u_28 0 9 rfl rfl rfl rfl ⟨rfl, rfl⟩ ⟨Nat.le_of_ble_eq_true rfl, Nat.le_of_ble_eq_true rfl⟩ ⟨Nat.le_of_ble_eq_true rfl, Nat.le_of_ble_eq_true rfl⟩ (Nat.le_of_ble_eq_true rfl) dX9_opens_83 (frW _) rfl (pi (fun r12 u13 hw => ?_))
      refine v_to (wMod G a0 w0) 86 [(0, .ref a0.1), (1, .int x1), (2, .int x2), (3, .int x3)] _ [.int r12] rfl rfl rfl rfl ?_
      refine v_aload_n (pc2 := 87) S 0 dX9_opens_86 rfl rfl rfl ?_
      refine v_get (v := .ref a0.2.1) (pc2 := 90) S gf_X9_7 0 rfl rfl dX9_opens_87 rfl ?_
      refine v_iconst (v := 0) (pc2 := 91) S dX9_opens_90 (by decide) rfl ?_
      obtain ⟨h14, hw⟩ := hw
      refine v_iald (pc2 := 92) S 1 rfl h14 dX9_opens_91 rfl ?_
      refine v_icmp_le (pc2 := 95) (tgt := 112) S dX9_opens_92 (by decide) rfl (fun c15 => ?_) (fun c15 => ?_)
      · have hw := hw.1 c15
        obtain ⟨z16, ez16⟩ : ∃ y : Int32, y = x3 + (1 : Int32) := ⟨_, rfl⟩
        have hw := hw z16 ez16
        refine v_iinc (v := z16) (lv2 := [(0, .ref a0.1), (1, .int x1), (2, .int x2), (3, .int z16)]) (pc2 := 115) S 3 dX9_opens_112 rfl (by rw [ez16]; rfl) (by decide) [1, 2, 3, 0] rfl rfl ?_
        refine v_goto (tgt := 75) S dX9_opens_115 (by decide) ?_
        exact hK75 x2 z16 w0 hw
      · have hw := hw.2 c15
        refine v_aload_n (pc2 := 96) S 0 dX9_opens_95 rfl rfl rfl ?_
        refine v_aload_n (pc2 := 97) S 0 dX9_opens_96 rfl rfl rfl ?_
        refine v_iload_n (pc2 := 98) S 3 dX9_opens_97 rfl rfl rfl ?_
        refine v_iload_n (pc2 := 99) S 1 dX9_opens_98 rfl rfl rfl ?_
        refine v_callV (pc2 := 102) (As := [.int x3, .int x1]) (rest := [.ref a0.1]) S (c_X9_lowestIn l G a0 w0 x3 x1 _ hw) mf_X9_lowestIn u_880 u_882 u_30 0 9 rfl rfl rfl rfl ⟨rfl, rfl⟩ ⟨Nat.le_of_ble_eq_true rfl, Nat.le_of_ble_eq_true rfl⟩ ⟨Nat.le_of_ble_eq_true rfl, Nat.le_of_ble_eq_true rfl⟩ (Nat.le_of_ble_eq_true rfl) dX9_opens_99 (frW _) rfl (pi (fun r17 u18 hw => ?_))
        refine v_to (wMod G a0 w0) 102 [(0, .ref a0.1), (1, .int x1), (2, .int x2), (3, .int x3)] _ [.int r17, .ref a0.1] rfl rfl rfl rfl ?_
        refine v_iconst (v := 4) (pc2 := 103) S dX9_opens_102 (by decide) rfl ?_
        refine v_callV (pc2 := 106) (As := [.int r17, .int (4 : Int32)]) (rest := []) S (c_X9_shuts l G a0 w0 r17 (4 : Int32) _ hw) mf_X9_shuts u_868 u_870 u_27 0 9 rfl rfl rfl rfl ⟨rfl, rfl⟩ ⟨Nat.le_of_ble_eq_true rfl, Nat.le_of_ble_eq_true rfl⟩ ⟨Nat.le_of_ble_eq_true rfl, Nat.le_of_ble_eq_true rfl⟩ (Nat.le_of_ble_eq_true rfl) dX9_opens_103 (frW _) rfl (pv (fun u20 hw => ?_))
        refine v_to (wMod G a0 u20) 106 [(0, .ref a0.1), (1, .int x1), (2, .int x2), (3, .int x3)] _ [] rfl rfl rfl rfl ?_
        obtain ⟨z21, ez21⟩ : ∃ y : Int32, y = x2 + (1 : Int32) := ⟨_, rfl⟩
        have hw := hw z21 ez21
        refine v_iinc (v := z21) (lv2 := [(0, .ref a0.1), (1, .int x1), (2, .int z21), (3, .int x3)]) (pc2 := 109) S 2 dX9_opens_106 rfl (by rw [ez21]; rfl) (by decide) [1, 2, 0, 3] rfl rfl ?_
        refine v_goto (tgt := 81) S dX9_opens_109 (by decide) ?_
        exact ih z21 u20 hw
  have L75 : ∀ (x1 : Int32) (kk : Nat) (x2 : Int32) (x3 : Int32) (w0 : ModV), wp_X9_opens_L75 x1 Q kk x2 x3 w0 → V p l e { frames := 3, cells := 0, slots := 0, locals := 68 } s m args below meth c G (va_A (wMod G a0 v0) s.heap.size) 4 0 0 (MQ below (EQ G (wMod G a0 v0) s.heap.size (PI (fun u : ModV => wMod G a0 u) Q)) args s 0 0 (va_A (wMod G a0 v0) s.heap.size)) (wMod G a0 w0) 75 [(0, .ref a0.1), (1, .int x1), (2, .int x2), (3, .int x3)] [] := by
    intro x1 kk
    induction kk with
    | zero => intro x2 x3 w0 hw; exact hw.elim
    | succ n ih =>
      intro x2 x3 w0 hw
      refine v_iload_n (pc2 := 76) S 3 dX9_opens_75 rfl rfl rfl ?_
      refine v_bipush (v := 6) (pc2 := 78) S dX9_opens_76 (by decide) rfl ?_
      refine v_icmp_ge (pc2 := 81) (tgt := 118) S dX9_opens_78 (by decide) rfl (fun c11 => ?_) (fun c11 => ?_)
      · have hw := hw.1 c11
        refine v_iload_n (pc2 := 119) S 2 dX9_opens_118 rfl rfl rfl ?_
        exact v_iret S ⟨x2, w0, rfl, rfl, hw⟩ dX9_opens_119
      · have hw := hw.2 c11
        obtain ⟨kk, hw⟩ := hw
        exact L81 x1 x3 (wp_X9_opens_L75 x1 Q n) ih kk x2 w0 hw
  have L35 : ∀ (x1 : Int32) (kk : Nat) (x2 : Int32) (x3 : Int32) (w0 : ModV), wp_X9_opens_L35 x1 Q kk x2 x3 w0 → V p l e { frames := 3, cells := 0, slots := 0, locals := 68 } s m args below meth c G (va_A (wMod G a0 v0) s.heap.size) 4 0 0 (MQ below (EQ G (wMod G a0 v0) s.heap.size (PI (fun u : ModV => wMod G a0 u) Q)) args s 0 0 (va_A (wMod G a0 v0) s.heap.size)) (wMod G a0 w0) 35 [(0, .ref a0.1), (1, .int x1), (2, .int x2), (3, .int x3)] [] := by
    intro x1 kk
    induction kk with
    | zero => intro x2 x3 w0 hw; exact hw.elim
    | succ n ih =>
      intro x2 x3 w0 hw
      refine v_iload_n (pc2 := 36) S 3 dX9_opens_35 rfl rfl rfl ?_
      refine v_bipush (v := 10) (pc2 := 38) S dX9_opens_36 (by decide) rfl ?_
      refine v_icmp_ge (pc2 := 41) (tgt := 73) S dX9_opens_38 (by decide) rfl (fun c10 => ?_) (fun c10 => ?_)
      · have hw := hw.1 c10
        refine v_iconst (v := 0) (pc2 := 74) S dX9_opens_73 (by decide) rfl ?_
        refine v_istore_n (lv2 := [(0, .ref a0.1), (1, .int x1), (2, .int x2), (3, .int (0 : Int32))]) (pc2 := 75) S dX9_opens_74 rfl (by decide) [1, 2, 3, 0] rfl rfl ?_
        obtain ⟨kk, hw⟩ := hw
        exact L75 x1 kk x2 (0 : Int32) w0 hw
      · have hw := hw.2 c10
        refine v_aload_n (pc2 := 42) S 0 dX9_opens_41 rfl rfl rfl ?_
        refine v_iload_n (pc2 := 43) S 1 dX9_opens_42 rfl rfl rfl ?_
        refine v_iload_n (pc2 := 44) S 3 dX9_opens_43 rfl rfl rfl ?_
        refine v_callV (pc2 := 47) (As := [.int x1, .int x3]) (rest := []) S (c_X9_goesTo l G a0 w0 x1 x3 _ hw) mf_X9_goesTo u_856 u_858 u_24 0 9 rfl rfl rfl rfl ⟨rfl, rfl⟩ ⟨Nat.le_of_ble_eq_true rfl, Nat.le_of_ble_eq_true rfl⟩ ⟨Nat.le_of_ble_eq_true rfl, Nat.le_of_ble_eq_true rfl⟩ (Nat.le_of_ble_eq_true rfl) dX9_opens_44 (frW _) rfl (pb (fun r22 u23 br22 hw => ?_))
        refine v_to (wMod G a0 w0) 47 [(0, .ref a0.1), (1, .int x1), (2, .int x2), (3, .int x3)] _ [.int r22] rfl rfl rfl rfl ?_
        refine v_if_eq (pc2 := 50) (tgt := 67) S dX9_opens_47 (by decide) rfl (fun c24 => ?_) (fun c24 => ?_)
        · have hw := hw.1 c24
          obtain ⟨z25, ez25⟩ : ∃ y : Int32, y = x3 + (1 : Int32) := ⟨_, rfl⟩
          have hw := hw z25 ez25
          refine v_iinc (v := z25) (lv2 := [(0, .ref a0.1), (1, .int x1), (2, .int x2), (3, .int z25)]) (pc2 := 70) S 3 dX9_opens_67 rfl (by rw [ez25]; rfl) (by decide) [1, 2, 3, 0] rfl rfl ?_
          refine v_goto (tgt := 35) S dX9_opens_70 (by decide) ?_
          exact ih x2 z25 w0 hw
        · have hw := hw.2 c24
          refine v_aload_n (pc2 := 51) S 0 dX9_opens_50 rfl rfl rfl ?_
          refine v_iload_n (pc2 := 52) S 3 dX9_opens_51 rfl rfl rfl ?_
          refine v_callV (pc2 := 55) (As := [.int x3]) (rest := []) S (c_X9_isOpen l G a0 w0 x3 _ hw) mf_X9_isOpen u_848 u_850 u_22 0 9 rfl rfl rfl rfl ⟨rfl, rfl⟩ ⟨Nat.le_of_ble_eq_true rfl, Nat.le_of_ble_eq_true rfl⟩ ⟨Nat.le_of_ble_eq_true rfl, Nat.le_of_ble_eq_true rfl⟩ (Nat.le_of_ble_eq_true rfl) dX9_opens_52 (frW _) rfl (pb (fun r26 u27 br26 hw => ?_))
          refine v_to (wMod G a0 w0) 55 [(0, .ref a0.1), (1, .int x1), (2, .int x2), (3, .int x3)] _ [.int r26] rfl rfl rfl rfl ?_
          refine v_if_eq (pc2 := 58) (tgt := 67) S dX9_opens_55 (by decide) rfl (fun c28 => ?_) (fun c28 => ?_)
          · have hw := hw.1 c28
            obtain ⟨z29, ez29⟩ : ∃ y : Int32, y = x3 + (1 : Int32) := ⟨_, rfl⟩
            have hw := hw z29 ez29
            refine v_iinc (v := z29) (lv2 := [(0, .ref a0.1), (1, .int x1), (2, .int x2), (3, .int z29)]) (pc2 := 70) S 3 dX9_opens_67 rfl (by rw [ez29]; rfl) (by decide) [1, 2, 3, 0] rfl rfl ?_
            refine v_goto (tgt := 35) S dX9_opens_70 (by decide) ?_
            exact ih x2 z29 w0 hw
          · have hw := hw.2 c28
            refine v_aload_n (pc2 := 59) S 0 dX9_opens_58 rfl rfl rfl ?_
            refine v_iload_n (pc2 := 60) S 3 dX9_opens_59 rfl rfl rfl ?_
            refine v_iconst (v := 3) (pc2 := 61) S dX9_opens_60 (by decide) rfl ?_
            refine v_callV (pc2 := 64) (As := [.int x3, .int (3 : Int32)]) (rest := []) S (c_X9_shuts l G a0 w0 x3 (3 : Int32) _ hw) mf_X9_shuts u_868 u_870 u_27 0 9 rfl rfl rfl rfl ⟨rfl, rfl⟩ ⟨Nat.le_of_ble_eq_true rfl, Nat.le_of_ble_eq_true rfl⟩ ⟨Nat.le_of_ble_eq_true rfl, Nat.le_of_ble_eq_true rfl⟩ (Nat.le_of_ble_eq_true rfl) dX9_opens_61 (frW _) rfl (pv (fun u31 hw => ?_))
            refine v_to (wMod G a0 u31) 64 [(0, .ref a0.1), (1, .int x1), (2, .int x2), (3, .int x3)] _ [] rfl rfl rfl rfl ?_
            obtain ⟨z32, ez32⟩ : ∃ y : Int32, y = x2 + (1 : Int32) := ⟨_, rfl⟩
            have hw := hw z32 ez32
            refine v_iinc (v := z32) (lv2 := [(0, .ref a0.1), (1, .int x1), (2, .int z32), (3, .int x3)]) (pc2 := 67) S 2 dX9_opens_64 rfl (by rw [ez32]; rfl) (by decide) [1, 2, 0, 3] rfl rfl ?_
            obtain ⟨z33, ez33⟩ : ∃ y : Int32, y = x3 + (1 : Int32) := ⟨_, rfl⟩
            have hw := hw z33 ez33
            refine v_iinc (v := z33) (lv2 := [(0, .ref a0.1), (1, .int x1), (2, .int z32), (3, .int z33)]) (pc2 := 70) S 3 dX9_opens_67 rfl (by rw [ez33]; rfl) (by decide) [1, 2, 3, 0] rfl rfl ?_
            refine v_goto (tgt := 35) S dX9_opens_70 (by decide) ?_
            exact ih z32 z33 u31 hw
  refine v_iconst (v := 0) (pc2 := 1) S dX9_opens_0 (by decide) rfl ?_
  refine v_istore_n (lv2 := [(0, .ref a0.1), (1, .int i0), (2, .int (0 : Int32))]) (pc2 := 2) S dX9_opens_1 rfl (by decide) [1, 2, 0] rfl rfl ?_
  refine v_aload_n (pc2 := 3) S 0 dX9_opens_2 rfl rfl rfl ?_
  refine v_iload_n (pc2 := 4) S 1 dX9_opens_3 rfl rfl rfl ?_
  refine v_iconst (v := 0) (pc2 := 5) S dX9_opens_4 (by decide) rfl ?_
  refine v_iconst (v := 1) (pc2 := 6) S dX9_opens_5 (by decide) rfl ?_
  refine v_callV (pc2 := 9) (As := [.int i0, .int (0 : Int32), .int (1 : Int32)]) (rest := []) S (c_X9_lay l G a0 v0 i0 (0 : Int32) (1 : Int32) _ hw) mf_X9_lay u_747 u_749 u_16 0 9 rfl rfl rfl rfl ⟨rfl, rfl⟩ ⟨Nat.le_of_ble_eq_true rfl, Nat.le_of_ble_eq_true rfl⟩ ⟨Nat.le_of_ble_eq_true rfl, Nat.le_of_ble_eq_true rfl⟩ (Nat.le_of_ble_eq_true rfl) dX9_opens_6 (frW _) rfl (pv (fun u2 hw => ?_))
  refine v_to (wMod G a0 u2) 9 [(0, .ref a0.1), (1, .int i0), (2, .int (0 : Int32))] _ [] rfl rfl rfl rfl ?_
  refine v_aload_n (pc2 := 10) S 0 dX9_opens_9 rfl rfl rfl ?_
  refine v_iload_n (pc2 := 11) S 1 dX9_opens_10 rfl rfl rfl ?_
  refine v_iconst (v := 5) (pc2 := 12) S dX9_opens_11 (by decide) rfl ?_
  refine v_aload_n (pc2 := 13) S 0 dX9_opens_12 rfl rfl rfl ?_
  refine v_iload_n (pc2 := 14) S 1 dX9_opens_13 rfl rfl rfl ?_
  refine v_iconst (v := 5) (pc2 := 15) S dX9_opens_14 (by decide) rfl ?_
  refine v_callV (pc2 := 18) (As := [.int i0, .int (5 : Int32)]) (rest := [.int (5 : Int32), .int i0, .ref a0.1]) S (c_X9_of l G a0 u2 i0 (5 : Int32) _ hw) mf_X9_of u_818 u_820 u_18 0 9 rfl rfl rfl rfl ⟨rfl, rfl⟩ ⟨Nat.le_of_ble_eq_true rfl, Nat.le_of_ble_eq_true rfl⟩ ⟨Nat.le_of_ble_eq_true rfl, Nat.le_of_ble_eq_true rfl⟩ (Nat.le_of_ble_eq_true rfl) dX9_opens_15 (frW _) rfl (pi (fun r3 u4 hw => ?_))
  refine v_to (wMod G a0 u2) 18 [(0, .ref a0.1), (1, .int i0), (2, .int (0 : Int32))] _ [.int r3, .int (5 : Int32), .int i0, .ref a0.1] rfl rfl rfl rfl ?_
  refine v_iconst (v := 1) (pc2 := 19) S dX9_opens_18 (by decide) rfl ?_
  refine v_iadd (pc2 := 20) S dX9_opens_19 rfl ?_
  refine v_callV (pc2 := 23) (As := [.int i0, .int (5 : Int32), .int (r3 + (1 : Int32))]) (rest := []) S (c_X9_lay l G a0 u2 i0 (5 : Int32) (r3 + (1 : Int32)) _ hw) mf_X9_lay u_747 u_749 u_16 0 9 rfl rfl rfl rfl ⟨rfl, rfl⟩ ⟨Nat.le_of_ble_eq_true rfl, Nat.le_of_ble_eq_true rfl⟩ ⟨Nat.le_of_ble_eq_true rfl, Nat.le_of_ble_eq_true rfl⟩ (Nat.le_of_ble_eq_true rfl) dX9_opens_20 (frW _) rfl (pv (fun u6 hw => ?_))
  refine v_to (wMod G a0 u6) 23 [(0, .ref a0.1), (1, .int i0), (2, .int (0 : Int32))] _ [] rfl rfl rfl rfl ?_
  refine v_aload_n (pc2 := 24) S 0 dX9_opens_23 rfl rfl rfl ?_
  refine v_get (v := .ref a0.2.1) (pc2 := 27) S gf_X9_7 0 rfl rfl dX9_opens_24 rfl ?_
  refine v_iconst (v := 1) (pc2 := 28) S dX9_opens_27 (by decide) rfl ?_
  refine v_dup2 (pc2 := 29) S dX9_opens_28 rfl rfl rfl ?_
  obtain ⟨h7, hw⟩ := hw
  refine v_iald (pc2 := 30) S 1 rfl h7 dX9_opens_29 rfl ?_
  refine v_iconst (v := 1) (pc2 := 31) S dX9_opens_30 (by decide) rfl ?_
  refine v_iadd (pc2 := 32) S dX9_opens_31 rfl ?_
  obtain ⟨h8, hw⟩ := hw
  obtain ⟨g9, eg9⟩ : ∃ y : Nat → Int32, y = upd u6.1 (1 : Int32).toNatClampNeg ((u6.1 (1 : Int32).toNatClampNeg) + (1 : Int32)) := ⟨_, rfl⟩
  have hw := hw g9 eg9
  refine v_iast (ws2 := wMod G a0 (g9, u6.2.1, u6.2.2.1, u6.2.2.2.1, u6.2.2.2.2.1, u6.2.2.2.2.2.1, u6.2.2.2.2.2.2.1, u6.2.2.2.2.2.2.2.1, u6.2.2.2.2.2.2.2.2.1, u6.2.2.2.2.2.2.2.2.2.1, u6.2.2.2.2.2.2.2.2.2.2.1, u6.2.2.2.2.2.2.2.2.2.2.2.1, u6.2.2.2.2.2.2.2.2.2.2.2.2.1, u6.2.2.2.2.2.2.2.2.2.2.2.2.2.1, u6.2.2.2.2.2.2.2.2.2.2.2.2.2.2.1, u6.2.2.2.2.2.2.2.2.2.2.2.2.2.2.2.1, u6.2.2.2.2.2.2.2.2.2.2.2.2.2.2.2.2)) (pc2 := 33) S 1 rfl h8 (by rw [eg9] <;> rfl) dX9_opens_32 rfl ?_
  refine v_iconst (v := 0) (pc2 := 34) S dX9_opens_33 (by decide) rfl ?_
  refine v_istore_n (lv2 := [(0, .ref a0.1), (1, .int i0), (2, .int (0 : Int32)), (3, .int (0 : Int32))]) (pc2 := 35) S dX9_opens_34 rfl (by decide) [1, 2, 3, 0] rfl rfl ?_
  obtain ⟨kk, hw⟩ := hw
  exact L35 i0 kk (0 : Int32) (0 : Int32) (g9, u6.2.1, u6.2.2.1, u6.2.2.2.1, u6.2.2.2.2.1, u6.2.2.2.2.2.1, u6.2.2.2.2.2.2.1, u6.2.2.2.2.2.2.2.1, u6.2.2.2.2.2.2.2.2.1, u6.2.2.2.2.2.2.2.2.2.1, u6.2.2.2.2.2.2.2.2.2.2.1, u6.2.2.2.2.2.2.2.2.2.2.2.1, u6.2.2.2.2.2.2.2.2.2.2.2.2.1, u6.2.2.2.2.2.2.2.2.2.2.2.2.2.1, u6.2.2.2.2.2.2.2.2.2.2.2.2.2.2.1, u6.2.2.2.2.2.2.2.2.2.2.2.2.2.2.2.1, u6.2.2.2.2.2.2.2.2.2.2.2.2.2.2.2.2) hw
set_option maxHeartbeats 4000000 in
set_option maxRecDepth 100000 in
theorem c_X9_refuse (l : Launch) (G : GG) (a0 : ModA) (v0 : ModV) (i0 : Int32) (Q : Int32 → ModV → Prop) (hw : wp_X9_refuse v0 i0 Q) : Con l G yX9_refuse cX9_refuse 2 (some .int) { frames := 0, cells := 0, slots := 0, locals := 0 } [.ref a0.1, .int i0] (wMod G a0 v0) (PI (fun u : ModV => wMod G a0 u) Q) 0 0 := by
  refine con_of RX9 rfl (by decide) [(0, .ref a0.1), (1, .int i0)] rfl (Nat.le_of_ble_eq_true rfl) ?_
  intro p e s m args below meth c S hname
  refine v_aload_n (pc2 := 1) S 0 dX9_refuse_0 rfl rfl rfl ?_
  refine v_get (v := .ref a0.2.1) (pc2 := 4) S gf_X9_7 0 rfl rfl dX9_refuse_1 rfl ?_
  refine v_iconst (v := 5) (pc2 := 5) S dX9_refuse_4 (by decide) rfl ?_
  refine v_dup2 (pc2 := 6) S dX9_refuse_5 rfl rfl rfl ?_
  obtain ⟨h1, hw⟩ := hw
  refine v_iald (pc2 := 7) S 1 rfl h1 dX9_refuse_6 rfl ?_
  refine v_iconst (v := 1) (pc2 := 8) S dX9_refuse_7 (by decide) rfl ?_
  refine v_iadd (pc2 := 9) S dX9_refuse_8 rfl ?_
  obtain ⟨h2, hw⟩ := hw
  obtain ⟨g3, eg3⟩ : ∃ y : Nat → Int32, y = upd v0.1 (5 : Int32).toNatClampNeg ((v0.1 (5 : Int32).toNatClampNeg) + (1 : Int32)) := ⟨_, rfl⟩
  have hw := hw g3 eg3
  refine v_iast (ws2 := wMod G a0 (g3, v0.2.1, v0.2.2.1, v0.2.2.2.1, v0.2.2.2.2.1, v0.2.2.2.2.2.1, v0.2.2.2.2.2.2.1, v0.2.2.2.2.2.2.2.1, v0.2.2.2.2.2.2.2.2.1, v0.2.2.2.2.2.2.2.2.2.1, v0.2.2.2.2.2.2.2.2.2.2.1, v0.2.2.2.2.2.2.2.2.2.2.2.1, v0.2.2.2.2.2.2.2.2.2.2.2.2.1, v0.2.2.2.2.2.2.2.2.2.2.2.2.2.1, v0.2.2.2.2.2.2.2.2.2.2.2.2.2.2.1, v0.2.2.2.2.2.2.2.2.2.2.2.2.2.2.2.1, v0.2.2.2.2.2.2.2.2.2.2.2.2.2.2.2.2)) (pc2 := 10) S 1 rfl h2 (by rw [eg3] <;> rfl) dX9_refuse_9 rfl ?_
  refine v_iload_n (pc2 := 11) S 1 dX9_refuse_10 rfl rfl rfl ?_
  exact v_iret S ⟨i0, (g3, v0.2.1, v0.2.2.1, v0.2.2.2.1, v0.2.2.2.2.1, v0.2.2.2.2.2.1, v0.2.2.2.2.2.2.1, v0.2.2.2.2.2.2.2.1, v0.2.2.2.2.2.2.2.2.1, v0.2.2.2.2.2.2.2.2.2.1, v0.2.2.2.2.2.2.2.2.2.2.1, v0.2.2.2.2.2.2.2.2.2.2.2.1, v0.2.2.2.2.2.2.2.2.2.2.2.2.1, v0.2.2.2.2.2.2.2.2.2.2.2.2.2.1, v0.2.2.2.2.2.2.2.2.2.2.2.2.2.2.1, v0.2.2.2.2.2.2.2.2.2.2.2.2.2.2.2.1, v0.2.2.2.2.2.2.2.2.2.2.2.2.2.2.2.2), rfl, rfl, hw⟩ dX9_refuse_11
set_option maxHeartbeats 4000000 in
set_option maxRecDepth 100000 in
theorem c_X9_openNow (l : Launch) (G : GG) (a0 : ModA) (v0 : ModV) (i0 : Int32) (Q : Int32 → ModV → Prop) (hw : wp_X9_openNow v0 i0 Q) : Con l G yX9_openNow cX9_openNow 3 (some .int) { frames := 4, cells := 0, slots := 0, locals := 91 } [.ref a0.1, .int i0] (wMod G a0 v0) (PI (fun u : ModV => wMod G a0 u) Q) 0 0 := by
  refine con_of RX9 rfl (by decide) [(0, .ref a0.1), (1, .int i0)] rfl (Nat.le_of_ble_eq_true rfl) ?_
  intro p e s m args below meth c S hname
  refine v_aload_n (pc2 := 1) S 0 dX9_openNow_0 rfl rfl rfl ?_
  refine v_iload_n (pc2 := 2) S 1 dX9_openNow_1 rfl rfl rfl ?_
  refine v_callV (pc2 := 5) (As := [.int i0]) (rest := []) S (c_X9_reason l G a0 v0 i0 _ hw) mf_X9_reason u_844 u_846 u_21 0 9 rfl rfl rfl rfl ⟨rfl, rfl⟩ ⟨Nat.le_of_ble_eq_true rfl, Nat.le_of_ble_eq_true rfl⟩ ⟨Nat.le_of_ble_eq_true rfl, Nat.le_of_ble_eq_true rfl⟩ (Nat.le_of_ble_eq_true rfl) dX9_openNow_2 (frW _) rfl (pi (fun r1 u2 hw => ?_))
  refine v_to (wMod G a0 v0) 5 [(0, .ref a0.1), (1, .int i0)] _ [.int r1] rfl rfl rfl rfl ?_
  refine v_istore_n (lv2 := [(0, .ref a0.1), (1, .int i0), (2, .int r1)]) (pc2 := 6) S dX9_openNow_5 rfl (by decide) [1, 2, 0] rfl rfl ?_
  refine v_iload_n (pc2 := 7) S 2 dX9_openNow_6 rfl rfl rfl ?_
  refine v_if_le (pc2 := 10) (tgt := 18) S dX9_openNow_7 (by decide) rfl (fun c3 => ?_) (fun c3 => ?_)
  · have hw := hw.1 c3
    refine v_bipush (v := 10) (pc2 := 20) S dX9_openNow_18 (by decide) rfl ?_
    refine v_aload_n (pc2 := 21) S 0 dX9_openNow_20 rfl rfl rfl ?_
    refine v_iload_n (pc2 := 22) S 1 dX9_openNow_21 rfl rfl rfl ?_
    refine v_callV (pc2 := 25) (As := [.int i0]) (rest := [.int (10 : Int32)]) S (c_X9_opens l G a0 v0 i0 _ hw) mf_X9_opens u_864 u_866 u_26 0 9 rfl rfl rfl rfl ⟨rfl, rfl⟩ ⟨Nat.le_of_ble_eq_true rfl, Nat.le_of_ble_eq_true rfl⟩ ⟨Nat.le_of_ble_eq_true rfl, Nat.le_of_ble_eq_true rfl⟩ (Nat.le_of_ble_eq_true rfl) dX9_openNow_22 (frW _) rfl (pi (fun r4 u5 hw => ?_))
    refine v_to (wMod G a0 u5) 25 [(0, .ref a0.1), (1, .int i0), (2, .int r1)] _ [.int r4, .int (10 : Int32)] rfl rfl rfl rfl ?_
    refine v_iadd (pc2 := 26) S dX9_openNow_25 rfl ?_
    exact v_iret S ⟨(10 : Int32) + r4, u5, rfl, rfl, hw⟩ dX9_openNow_26
  · have hw := hw.2 c3
    refine v_aload_n (pc2 := 11) S 0 dX9_openNow_10 rfl rfl rfl ?_
    refine v_iload_n (pc2 := 12) S 2 dX9_openNow_11 rfl rfl rfl ?_
    refine v_callV (pc2 := 15) (As := [.int r1]) (rest := []) S (c_X9_refuse l G a0 v0 r1 _ hw) mf_X9_refuse u_860 u_862 u_25 0 9 rfl rfl rfl rfl ⟨rfl, rfl⟩ ⟨Nat.le_of_ble_eq_true rfl, Nat.le_of_ble_eq_true rfl⟩ ⟨Nat.le_of_ble_eq_true rfl, Nat.le_of_ble_eq_true rfl⟩ (Nat.le_of_ble_eq_true rfl) dX9_openNow_12 (frW _) rfl (pi (fun r6 u7 hw => ?_))
    refine v_to (wMod G a0 u7) 15 [(0, .ref a0.1), (1, .int i0), (2, .int r1)] _ [.int r6] rfl rfl rfl rfl ?_
    refine v_goto (tgt := 26) S dX9_openNow_15 (by decide) ?_
    exact v_iret S ⟨r6, u7, rfl, rfl, hw⟩ dX9_openNow_26
set_option maxHeartbeats 4000000 in
set_option maxRecDepth 100000 in
theorem c_X9_shutNow (l : Launch) (G : GG) (a0 : ModA) (v0 : ModV) (i0 : Int32) (Q : Int32 → ModV → Prop) (hw : wp_X9_shutNow v0 i0 Q) : Con l G yX9_shutNow cX9_shutNow 2 (some .int) { frames := 2, cells := 0, slots := 0, locals := 45 } [.ref a0.1, .int i0] (wMod G a0 v0) (PI (fun u : ModV => wMod G a0 u) Q) 0 0 := by
  refine con_of RX9 rfl (by decide) [(0, .ref a0.1), (1, .int i0)] rfl (Nat.le_of_ble_eq_true rfl) ?_
  intro p e s m args below meth c S hname
  refine v_aload_n (pc2 := 1) S 0 dX9_shutNow_0 rfl rfl rfl ?_
  refine v_iload_n (pc2 := 2) S 1 dX9_shutNow_1 rfl rfl rfl ?_
  refine v_callV (pc2 := 5) (As := [.int i0]) (rest := []) S (c_X9_isOpen l G a0 v0 i0 _ hw) mf_X9_isOpen u_848 u_850 u_22 0 9 rfl rfl rfl rfl ⟨rfl, rfl⟩ ⟨Nat.le_of_ble_eq_true rfl, Nat.le_of_ble_eq_true rfl⟩ ⟨Nat.le_of_ble_eq_true rfl, Nat.le_of_ble_eq_true rfl⟩ (Nat.le_of_ble_eq_true rfl) dX9_shutNow_2 (frW _) rfl (pb (fun r1 u2 br1 hw => ?_))
  refine v_to (wMod G a0 v0) 5 [(0, .ref a0.1), (1, .int i0)] _ [.int r1] rfl rfl rfl rfl ?_
  refine v_if_ne (pc2 := 8) (tgt := 14) S dX9_shutNow_5 (by decide) rfl (fun c3 => ?_) (fun c3 => ?_)
  · have hw := hw.1 c3
    refine v_aload_n (pc2 := 15) S 0 dX9_shutNow_14 rfl rfl rfl ?_
    refine v_iload_n (pc2 := 16) S 1 dX9_shutNow_15 rfl rfl rfl ?_
    refine v_iconst (v := 2) (pc2 := 17) S dX9_shutNow_16 (by decide) rfl ?_
    refine v_callV (pc2 := 20) (As := [.int i0, .int (2 : Int32)]) (rest := []) S (c_X9_shuts l G a0 v0 i0 (2 : Int32) _ hw) mf_X9_shuts u_868 u_870 u_27 0 9 rfl rfl rfl rfl ⟨rfl, rfl⟩ ⟨Nat.le_of_ble_eq_true rfl, Nat.le_of_ble_eq_true rfl⟩ ⟨Nat.le_of_ble_eq_true rfl, Nat.le_of_ble_eq_true rfl⟩ (Nat.le_of_ble_eq_true rfl) dX9_shutNow_17 (frW _) rfl (pv (fun u5 hw => ?_))
    refine v_to (wMod G a0 u5) 20 [(0, .ref a0.1), (1, .int i0)] _ [] rfl rfl rfl rfl ?_
    refine v_bipush (v := 10) (pc2 := 22) S dX9_shutNow_20 (by decide) rfl ?_
    exact v_iret S ⟨(10 : Int32), u5, rfl, rfl, hw⟩ dX9_shutNow_22
  · have hw := hw.2 c3
    refine v_aload_n (pc2 := 9) S 0 dX9_shutNow_8 rfl rfl rfl ?_
    refine v_iconst (v := 3) (pc2 := 10) S dX9_shutNow_9 (by decide) rfl ?_
    refine v_callV (pc2 := 13) (As := [.int (3 : Int32)]) (rest := []) S (c_X9_refuse l G a0 v0 (3 : Int32) _ hw) mf_X9_refuse u_860 u_862 u_25 0 9 rfl rfl rfl rfl ⟨rfl, rfl⟩ ⟨Nat.le_of_ble_eq_true rfl, Nat.le_of_ble_eq_true rfl⟩ ⟨Nat.le_of_ble_eq_true rfl, Nat.le_of_ble_eq_true rfl⟩ (Nat.le_of_ble_eq_true rfl) dX9_shutNow_10 (frW _) rfl (pi (fun r6 u7 hw => ?_))
    refine v_to (wMod G a0 u7) 13 [(0, .ref a0.1), (1, .int i0)] _ [.int r6] rfl rfl rfl rfl ?_
    exact v_iret S ⟨r6, u7, rfl, rfl, hw⟩ dX9_shutNow_13
set_option maxHeartbeats 4000000 in
set_option maxRecDepth 100000 in
theorem c_X9_isAt (l : Launch) (G : GG) (a0 : ModA) (v0 : ModV) (i0 : Int32) (i1 : Int32) (Q : Int32 → Prop) (hw : wp_X9_isAt v0 i0 i1 Q) : Con l G yX9_isAt cX9_isAt 3 (some .boolean) { frames := 2, cells := 0, slots := 0, locals := 44 } [.ref a0.1, .int i0, .int i1] (wMod G a0 v0) (PB (fun _ : Unit => wMod G a0 v0) (fun r _ => Q r)) 0 0 := by
  refine con_of RX9 rfl (by decide) [(0, .ref a0.1), (1, .int i0), (2, .int i1)] rfl (Nat.le_of_ble_eq_true rfl) ?_
  intro p e s m args below meth c S hname
  refine v_aload_n (pc2 := 1) S 0 dX9_isAt_0 rfl rfl rfl ?_
  refine v_iload_n (pc2 := 2) S 2 dX9_isAt_1 rfl rfl rfl ?_
  refine v_aload_n (pc2 := 3) S 0 dX9_isAt_2 rfl rfl rfl ?_
  refine v_iload_n (pc2 := 4) S 1 dX9_isAt_3 rfl rfl rfl ?_
  refine v_iconst (v := 0) (pc2 := 5) S dX9_isAt_4 (by decide) rfl ?_
  refine v_callV (pc2 := 8) (As := [.int i0, .int (0 : Int32)]) (rest := [.int i1, .ref a0.1]) S (c_X9_ofGuest l G a0 v0 i0 (0 : Int32) _ hw) mf_X9_ofGuest u_907 u_909 u_34 0 9 rfl rfl rfl rfl ⟨rfl, rfl⟩ ⟨Nat.le_of_ble_eq_true rfl, Nat.le_of_ble_eq_true rfl⟩ ⟨Nat.le_of_ble_eq_true rfl, Nat.le_of_ble_eq_true rfl⟩ (Nat.le_of_ble_eq_true rfl) dX9_isAt_5 (frW _) rfl (pi (fun r1 u2 hw => ?_))
  refine v_to (wMod G a0 v0) 8 [(0, .ref a0.1), (1, .int i0), (2, .int i1)] _ [.int r1, .int i1, .ref a0.1] rfl rfl rfl rfl ?_
  refine v_callV (pc2 := 11) (As := [.int i1, .int r1]) (rest := []) S (c_X9_joins l G a0 v0 i1 r1 _ hw) mf_X9_joins u_876 u_878 u_29 0 9 rfl rfl rfl rfl ⟨rfl, rfl⟩ ⟨Nat.le_of_ble_eq_true rfl, Nat.le_of_ble_eq_true rfl⟩ ⟨Nat.le_of_ble_eq_true rfl, Nat.le_of_ble_eq_true rfl⟩ (Nat.le_of_ble_eq_true rfl) dX9_isAt_8 (frW _) rfl (pb (fun r3 u4 br3 hw => ?_))
  refine v_to (wMod G a0 v0) 11 [(0, .ref a0.1), (1, .int i0), (2, .int i1)] _ [.int r3] rfl rfl rfl rfl ?_
  exact v_zret S br3 ⟨r3, (), rfl, br3, rfl, hw⟩ dX9_isAt_11
set_option maxHeartbeats 4000000 in
set_option maxRecDepth 100000 in
theorem c_X9_hasKey (l : Launch) (G : GG) (a0 : ModA) (v0 : ModV) (i0 : Int32) (i1 : Int32) (Q : Int32 → Prop) (hw : wp_X9_hasKey v0 i0 i1 Q) : Con l G yX9_hasKey cX9_hasKey 3 (some .boolean) { frames := 1, cells := 0, slots := 0, locals := 22 } [.ref a0.1, .int i0, .int i1] (wMod G a0 v0) (PB (fun _ : Unit => wMod G a0 v0) (fun r _ => Q r)) 0 0 := by
  refine con_of RX9 rfl (by decide) [(0, .ref a0.1), (1, .int i0), (2, .int i1)] rfl (Nat.le_of_ble_eq_true rfl) ?_
  intro p e s m args below meth c S hname
  refine v_aload_n (pc2 := 1) S 0 dX9_hasKey_0 rfl rfl rfl ?_
  refine v_iload_n (pc2 := 2) S 1 dX9_hasKey_1 rfl rfl rfl ?_
  refine v_iconst (v := 1) (pc2 := 3) S dX9_hasKey_2 (by decide) rfl ?_
  refine v_callV (pc2 := 6) (As := [.int i0, .int (1 : Int32)]) (rest := []) S (c_X9_ofGuest l G a0 v0 i0 (1 : Int32) _ hw) mf_X9_ofGuest u_907 u_909 u_34 0 9 rfl rfl rfl rfl ⟨rfl, rfl⟩ ⟨Nat.le_of_ble_eq_true rfl, Nat.le_of_ble_eq_true rfl⟩ ⟨Nat.le_of_ble_eq_true rfl, Nat.le_of_ble_eq_true rfl⟩ (Nat.le_of_ble_eq_true rfl) dX9_hasKey_3 (frW _) rfl (pi (fun r1 u2 hw => ?_))
  refine v_to (wMod G a0 v0) 6 [(0, .ref a0.1), (1, .int i0), (2, .int i1)] _ [.int r1] rfl rfl rfl rfl ?_
  refine v_iload_n (pc2 := 7) S 2 dX9_hasKey_6 rfl rfl rfl ?_
  refine v_ishr (pc2 := 8) S dX9_hasKey_7 rfl ?_
  refine v_iconst (v := 1) (pc2 := 9) S dX9_hasKey_8 (by decide) rfl ?_
  refine v_iand (pc2 := 10) S dX9_hasKey_9 rfl ?_
  refine v_iconst (v := 1) (pc2 := 11) S dX9_hasKey_10 (by decide) rfl ?_
  refine v_icmp_ne (pc2 := 14) (tgt := 18) S dX9_hasKey_11 (by decide) rfl (fun c3 => ?_) (fun c3 => ?_)
  · have hw := hw.1 c3
    refine v_iconst (v := 0) (pc2 := 19) S dX9_hasKey_18 (by decide) rfl ?_
    exact v_zret S (by decide) ⟨(0 : Int32), (), rfl, (by decide), rfl, hw⟩ dX9_hasKey_19
  · have hw := hw.2 c3
    refine v_iconst (v := 1) (pc2 := 15) S dX9_hasKey_14 (by decide) rfl ?_
    refine v_goto (tgt := 19) S dX9_hasKey_15 (by decide) ?_
    exact v_zret S (by decide) ⟨(1 : Int32), (), rfl, (by decide), rfl, hw⟩ dX9_hasKey_19
set_option maxHeartbeats 4000000 in
set_option maxRecDepth 100000 in
theorem c_X9_guestOpensNow (l : Launch) (G : GG) (a0 : ModA) (v0 : ModV) (i0 : Int32) (i1 : Int32) (Q : Int32 → ModV → Prop) (hw : wp_X9_guestOpensNow v0 i0 i1 Q) : Con l G yX9_guestOpensNow cX9_guestOpensNow 3 (some .int) { frames := 5, cells := 0, slots := 0, locals := 113 } [.ref a0.1, .int i0, .int i1] (wMod G a0 v0) (PI (fun u : ModV => wMod G a0 u) Q) 0 0 := by
  refine con_of RX9 rfl (by decide) [(0, .ref a0.1), (1, .int i0), (2, .int i1)] rfl (Nat.le_of_ble_eq_true rfl) ?_
  intro p e s m args below meth c S hname
  refine v_aload_n (pc2 := 1) S 0 dX9_guestOpensNow_0 rfl rfl rfl ?_
  refine v_iload_n (pc2 := 2) S 1 dX9_guestOpensNow_1 rfl rfl rfl ?_
  refine v_iload_n (pc2 := 3) S 2 dX9_guestOpensNow_2 rfl rfl rfl ?_
  refine v_callV (pc2 := 6) (As := [.int i0, .int i1]) (rest := []) S (c_X9_isAt l G a0 v0 i0 i1 _ hw) mf_X9_isAt u_903 u_905 u_33 0 9 rfl rfl rfl rfl ⟨rfl, rfl⟩ ⟨Nat.le_of_ble_eq_true rfl, Nat.le_of_ble_eq_true rfl⟩ ⟨Nat.le_of_ble_eq_true rfl, Nat.le_of_ble_eq_true rfl⟩ (Nat.le_of_ble_eq_true rfl) dX9_guestOpensNow_3 (frW _) rfl (pb (fun r1 u2 br1 hw => ?_))
  refine v_to (wMod G a0 v0) 6 [(0, .ref a0.1), (1, .int i0), (2, .int i1)] _ [.int r1] rfl rfl rfl rfl ?_
  refine v_if_ne (pc2 := 9) (tgt := 17) S dX9_guestOpensNow_6 (by decide) rfl (fun c3 => ?_) (fun c3 => ?_)
  · have hw := hw.1 c3
    refine v_aload_n (pc2 := 18) S 0 dX9_guestOpensNow_17 rfl rfl rfl ?_
    refine v_iload_n (pc2 := 19) S 1 dX9_guestOpensNow_18 rfl rfl rfl ?_
    refine v_iload_n (pc2 := 20) S 2 dX9_guestOpensNow_19 rfl rfl rfl ?_
    refine v_callV (pc2 := 23) (As := [.int i0, .int i1]) (rest := []) S (c_X9_hasKey l G a0 v0 i0 i1 _ hw) mf_X9_hasKey u_911 u_913 u_35 0 9 rfl rfl rfl rfl ⟨rfl, rfl⟩ ⟨Nat.le_of_ble_eq_true rfl, Nat.le_of_ble_eq_true rfl⟩ ⟨Nat.le_of_ble_eq_true rfl, Nat.le_of_ble_eq_true rfl⟩ (Nat.le_of_ble_eq_true rfl) dX9_guestOpensNow_20 (frW _) rfl (pb (fun r4 u5 br4 hw => ?_))
    refine v_to (wMod G a0 v0) 23 [(0, .ref a0.1), (1, .int i0), (2, .int i1)] _ [.int r4] rfl rfl rfl rfl ?_
    refine v_if_eq (pc2 := 26) (tgt := 34) S dX9_guestOpensNow_23 (by decide) rfl (fun c6 => ?_) (fun c6 => ?_)
    · have hw := hw.1 c6
      refine v_aload_n (pc2 := 35) S 0 dX9_guestOpensNow_34 rfl rfl rfl ?_
      refine v_bipush (v := 6) (pc2 := 37) S dX9_guestOpensNow_35 (by decide) rfl ?_
      refine v_callV (pc2 := 40) (As := [.int (6 : Int32)]) (rest := []) S (c_X9_refuse l G a0 v0 (6 : Int32) _ hw) mf_X9_refuse u_860 u_862 u_25 0 9 rfl rfl rfl rfl ⟨rfl, rfl⟩ ⟨Nat.le_of_ble_eq_true rfl, Nat.le_of_ble_eq_true rfl⟩ ⟨Nat.le_of_ble_eq_true rfl, Nat.le_of_ble_eq_true rfl⟩ (Nat.le_of_ble_eq_true rfl) dX9_guestOpensNow_37 (frW _) rfl (pi (fun r7 u8 hw => ?_))
      refine v_to (wMod G a0 u8) 40 [(0, .ref a0.1), (1, .int i0), (2, .int i1)] _ [.int r7] rfl rfl rfl rfl ?_
      exact v_iret S ⟨r7, u8, rfl, rfl, hw⟩ dX9_guestOpensNow_40
    · have hw := hw.2 c6
      refine v_aload_n (pc2 := 27) S 0 dX9_guestOpensNow_26 rfl rfl rfl ?_
      refine v_iload_n (pc2 := 28) S 2 dX9_guestOpensNow_27 rfl rfl rfl ?_
      refine v_callV (pc2 := 31) (As := [.int i1]) (rest := []) S (c_X9_openNow l G a0 v0 i1 _ hw) mf_X9_openNow u_840 u_842 u_20 0 9 rfl rfl rfl rfl ⟨rfl, rfl⟩ ⟨Nat.le_of_ble_eq_true rfl, Nat.le_of_ble_eq_true rfl⟩ ⟨Nat.le_of_ble_eq_true rfl, Nat.le_of_ble_eq_true rfl⟩ (Nat.le_of_ble_eq_true rfl) dX9_guestOpensNow_28 (frW _) rfl (pi (fun r9 u10 hw => ?_))
      refine v_to (wMod G a0 u10) 31 [(0, .ref a0.1), (1, .int i0), (2, .int i1)] _ [.int r9] rfl rfl rfl rfl ?_
      refine v_goto (tgt := 40) S dX9_guestOpensNow_31 (by decide) ?_
      exact v_iret S ⟨r9, u10, rfl, rfl, hw⟩ dX9_guestOpensNow_40
  · have hw := hw.2 c3
    refine v_aload_n (pc2 := 10) S 0 dX9_guestOpensNow_9 rfl rfl rfl ?_
    refine v_iconst (v := 5) (pc2 := 11) S dX9_guestOpensNow_10 (by decide) rfl ?_
    refine v_callV (pc2 := 14) (As := [.int (5 : Int32)]) (rest := []) S (c_X9_refuse l G a0 v0 (5 : Int32) _ hw) mf_X9_refuse u_860 u_862 u_25 0 9 rfl rfl rfl rfl ⟨rfl, rfl⟩ ⟨Nat.le_of_ble_eq_true rfl, Nat.le_of_ble_eq_true rfl⟩ ⟨Nat.le_of_ble_eq_true rfl, Nat.le_of_ble_eq_true rfl⟩ (Nat.le_of_ble_eq_true rfl) dX9_guestOpensNow_11 (frW _) rfl (pi (fun r11 u12 hw => ?_))
    refine v_to (wMod G a0 u12) 14 [(0, .ref a0.1), (1, .int i0), (2, .int i1)] _ [.int r11] rfl rfl rfl rfl ?_
    refine v_goto (tgt := 40) S dX9_guestOpensNow_14 (by decide) ?_
    exact v_iret S ⟨r11, u12, rfl, rfl, hw⟩ dX9_guestOpensNow_40
set_option maxHeartbeats 4000000 in
set_option maxRecDepth 100000 in
theorem c_X9_guestShutsNow (l : Launch) (G : GG) (a0 : ModA) (v0 : ModV) (i0 : Int32) (i1 : Int32) (Q : Int32 → ModV → Prop) (hw : wp_X9_guestShutsNow v0 i0 i1 Q) : Con l G yX9_guestShutsNow cX9_guestShutsNow 3 (some .int) { frames := 3, cells := 0, slots := 0, locals := 66 } [.ref a0.1, .int i0, .int i1] (wMod G a0 v0) (PI (fun u : ModV => wMod G a0 u) Q) 0 0 := by
  refine con_of RX9 rfl (by decide) [(0, .ref a0.1), (1, .int i0), (2, .int i1)] rfl (Nat.le_of_ble_eq_true rfl) ?_
  intro p e s m args below meth c S hname
  refine v_aload_n (pc2 := 1) S 0 dX9_guestShutsNow_0 rfl rfl rfl ?_
  refine v_iload_n (pc2 := 2) S 1 dX9_guestShutsNow_1 rfl rfl rfl ?_
  refine v_iload_n (pc2 := 3) S 2 dX9_guestShutsNow_2 rfl rfl rfl ?_
  refine v_callV (pc2 := 6) (As := [.int i0, .int i1]) (rest := []) S (c_X9_isAt l G a0 v0 i0 i1 _ hw) mf_X9_isAt u_903 u_905 u_33 0 9 rfl rfl rfl rfl ⟨rfl, rfl⟩ ⟨Nat.le_of_ble_eq_true rfl, Nat.le_of_ble_eq_true rfl⟩ ⟨Nat.le_of_ble_eq_true rfl, Nat.le_of_ble_eq_true rfl⟩ (Nat.le_of_ble_eq_true rfl) dX9_guestShutsNow_3 (frW _) rfl (pb (fun r1 u2 br1 hw => ?_))
  refine v_to (wMod G a0 v0) 6 [(0, .ref a0.1), (1, .int i0), (2, .int i1)] _ [.int r1] rfl rfl rfl rfl ?_
  refine v_if_eq (pc2 := 9) (tgt := 17) S dX9_guestShutsNow_6 (by decide) rfl (fun c3 => ?_) (fun c3 => ?_)
  · have hw := hw.1 c3
    refine v_aload_n (pc2 := 18) S 0 dX9_guestShutsNow_17 rfl rfl rfl ?_
    refine v_iconst (v := 5) (pc2 := 19) S dX9_guestShutsNow_18 (by decide) rfl ?_
    refine v_callV (pc2 := 22) (As := [.int (5 : Int32)]) (rest := []) S (c_X9_refuse l G a0 v0 (5 : Int32) _ hw) mf_X9_refuse u_860 u_862 u_25 0 9 rfl rfl rfl rfl ⟨rfl, rfl⟩ ⟨Nat.le_of_ble_eq_true rfl, Nat.le_of_ble_eq_true rfl⟩ ⟨Nat.le_of_ble_eq_true rfl, Nat.le_of_ble_eq_true rfl⟩ (Nat.le_of_ble_eq_true rfl) dX9_guestShutsNow_19 (frW _) rfl (pi (fun r4 u5 hw => ?_))
    refine v_to (wMod G a0 u5) 22 [(0, .ref a0.1), (1, .int i0), (2, .int i1)] _ [.int r4] rfl rfl rfl rfl ?_
    exact v_iret S ⟨r4, u5, rfl, rfl, hw⟩ dX9_guestShutsNow_22
  · have hw := hw.2 c3
    refine v_aload_n (pc2 := 10) S 0 dX9_guestShutsNow_9 rfl rfl rfl ?_
    refine v_iload_n (pc2 := 11) S 2 dX9_guestShutsNow_10 rfl rfl rfl ?_
    refine v_callV (pc2 := 14) (As := [.int i1]) (rest := []) S (c_X9_shutNow l G a0 v0 i1 _ hw) mf_X9_shutNow u_888 u_890 u_31 0 9 rfl rfl rfl rfl ⟨rfl, rfl⟩ ⟨Nat.le_of_ble_eq_true rfl, Nat.le_of_ble_eq_true rfl⟩ ⟨Nat.le_of_ble_eq_true rfl, Nat.le_of_ble_eq_true rfl⟩ (Nat.le_of_ble_eq_true rfl) dX9_guestShutsNow_11 (frW _) rfl (pi (fun r6 u7 hw => ?_))
    refine v_to (wMod G a0 u7) 14 [(0, .ref a0.1), (1, .int i0), (2, .int i1)] _ [.int r6] rfl rfl rfl rfl ?_
    refine v_goto (tgt := 22) S dX9_guestShutsNow_14 (by decide) ?_
    exact v_iret S ⟨r6, u7, rfl, rfl, hw⟩ dX9_guestShutsNow_22
set_option maxHeartbeats 4000000 in
set_option maxRecDepth 100000 in
theorem c_X9_across (l : Launch) (G : GG) (a0 : ModA) (v0 : ModV) (i0 : Int32) (i1 : Int32) (Q : Int32 → Prop) (hw : wp_X9_across v0 i0 i1 Q) : Con l G yX9_across cX9_across 3 (some .int) { frames := 1, cells := 0, slots := 0, locals := 22 } [.ref a0.1, .int i0, .int i1] (wMod G a0 v0) (PI (fun _ : Unit => wMod G a0 v0) (fun r _ => Q r)) 0 0 := by
  refine con_of RX9 rfl (by decide) [(0, .ref a0.1), (1, .int i0), (2, .int i1)] rfl (Nat.le_of_ble_eq_true rfl) ?_
  intro p e s m args below meth c S hname
  refine v_aload_n (pc2 := 1) S 0 dX9_across_0 rfl rfl rfl ?_
  refine v_iload_n (pc2 := 2) S 1 dX9_across_1 rfl rfl rfl ?_
  refine v_iconst (v := 1) (pc2 := 3) S dX9_across_2 (by decide) rfl ?_
  refine v_callV (pc2 := 6) (As := [.int i0, .int (1 : Int32)]) (rest := []) S (c_X9_of l G a0 v0 i0 (1 : Int32) _ hw) mf_X9_of u_818 u_820 u_18 0 9 rfl rfl rfl rfl ⟨rfl, rfl⟩ ⟨Nat.le_of_ble_eq_true rfl, Nat.le_of_ble_eq_true rfl⟩ ⟨Nat.le_of_ble_eq_true rfl, Nat.le_of_ble_eq_true rfl⟩ (Nat.le_of_ble_eq_true rfl) dX9_across_3 (frW _) rfl (pi (fun r1 u2 hw => ?_))
  refine v_to (wMod G a0 v0) 6 [(0, .ref a0.1), (1, .int i0), (2, .int i1)] _ [.int r1] rfl rfl rfl rfl ?_
  refine v_iload_n (pc2 := 7) S 2 dX9_across_6 rfl rfl rfl ?_
  refine v_icmp_ne (pc2 := 10) (tgt := 19) S dX9_across_7 (by decide) rfl (fun c3 => ?_) (fun c3 => ?_)
  · have hw := hw.1 c3
    refine v_aload_n (pc2 := 20) S 0 dX9_across_19 rfl rfl rfl ?_
    refine v_iload_n (pc2 := 21) S 1 dX9_across_20 rfl rfl rfl ?_
    refine v_iconst (v := 1) (pc2 := 22) S dX9_across_21 (by decide) rfl ?_
    refine v_callV (pc2 := 25) (As := [.int i0, .int (1 : Int32)]) (rest := []) S (c_X9_of l G a0 v0 i0 (1 : Int32) _ hw) mf_X9_of u_818 u_820 u_18 0 9 rfl rfl rfl rfl ⟨rfl, rfl⟩ ⟨Nat.le_of_ble_eq_true rfl, Nat.le_of_ble_eq_true rfl⟩ ⟨Nat.le_of_ble_eq_true rfl, Nat.le_of_ble_eq_true rfl⟩ (Nat.le_of_ble_eq_true rfl) dX9_across_22 (frW _) rfl (pi (fun r4 u5 hw => ?_))
    refine v_to (wMod G a0 v0) 25 [(0, .ref a0.1), (1, .int i0), (2, .int i1)] _ [.int r4] rfl rfl rfl rfl ?_
    exact v_iret S ⟨r4, (), rfl, rfl, hw⟩ dX9_across_25
  · have hw := hw.2 c3
    refine v_aload_n (pc2 := 11) S 0 dX9_across_10 rfl rfl rfl ?_
    refine v_iload_n (pc2 := 12) S 1 dX9_across_11 rfl rfl rfl ?_
    refine v_iconst (v := 2) (pc2 := 13) S dX9_across_12 (by decide) rfl ?_
    refine v_callV (pc2 := 16) (As := [.int i0, .int (2 : Int32)]) (rest := []) S (c_X9_of l G a0 v0 i0 (2 : Int32) _ hw) mf_X9_of u_818 u_820 u_18 0 9 rfl rfl rfl rfl ⟨rfl, rfl⟩ ⟨Nat.le_of_ble_eq_true rfl, Nat.le_of_ble_eq_true rfl⟩ ⟨Nat.le_of_ble_eq_true rfl, Nat.le_of_ble_eq_true rfl⟩ (Nat.le_of_ble_eq_true rfl) dX9_across_13 (frW _) rfl (pi (fun r6 u7 hw => ?_))
    refine v_to (wMod G a0 v0) 16 [(0, .ref a0.1), (1, .int i0), (2, .int i1)] _ [.int r6] rfl rfl rfl rfl ?_
    refine v_goto (tgt := 25) S dX9_across_16 (by decide) ?_
    exact v_iret S ⟨r6, (), rfl, rfl, hw⟩ dX9_across_25
set_option maxHeartbeats 4000000 in
set_option maxRecDepth 100000 in
theorem c_X9_walkNow (l : Launch) (G : GG) (a0 : ModA) (v0 : ModV) (i0 : Int32) (i1 : Int32) (Q : Int32 → ModV → Prop) (hw : wp_X9_walkNow v0 i0 i1 Q) : Con l G yX9_walkNow cX9_walkNow 4 (some .int) { frames := 3, cells := 0, slots := 0, locals := 66 } [.ref a0.1, .int i0, .int i1] (wMod G a0 v0) (PI (fun u : ModV => wMod G a0 u) Q) 0 0 := by
  refine con_of RX9 rfl (by decide) [(0, .ref a0.1), (1, .int i0), (2, .int i1)] rfl (Nat.le_of_ble_eq_true rfl) ?_
  intro p e s m args below meth c S hname
  have B17 : ∀ (x1 : Int32) (x2 : Int32) (w0 : ModV), wp_X9_walkNow_B17 x1 x2 w0 Q → V p l e { frames := 3, cells := 0, slots := 0, locals := 66 } s m args below meth c G (va_A (wMod G a0 v0) s.heap.size) 4 0 0 (MQ below (EQ G (wMod G a0 v0) s.heap.size (PI (fun u : ModV => wMod G a0 u) Q)) args s 0 0 (va_A (wMod G a0 v0) s.heap.size)) (wMod G a0 w0) 17 [(0, .ref a0.1), (1, .int x1), (2, .int x2)] [] := by
    intro x1 x2 w0 hw
    refine v_aload_n (pc2 := 18) S 0 dX9_walkNow_17 rfl rfl rfl ?_
    refine v_aload_n (pc2 := 19) S 0 dX9_walkNow_18 rfl rfl rfl ?_
    refine v_iload_n (pc2 := 20) S 1 dX9_walkNow_19 rfl rfl rfl ?_
    refine v_iload_n (pc2 := 21) S 2 dX9_walkNow_20 rfl rfl rfl ?_
    refine v_callV (pc2 := 24) (As := [.int x1, .int x2]) (rest := [.ref a0.1]) S (c_X9_isAt l G a0 w0 x1 x2 _ hw) mf_X9_isAt u_903 u_905 u_33 0 9 rfl rfl rfl rfl ⟨rfl, rfl⟩ ⟨Nat.le_of_ble_eq_true rfl, Nat.le_of_ble_eq_true rfl⟩ ⟨Nat.le_of_ble_eq_true rfl, Nat.le_of_ble_eq_true rfl⟩ (Nat.le_of_ble_eq_true rfl) dX9_walkNow_21 (frW _) rfl (pb (fun r4 u5 br4 hw => ?_))
    refine v_to (wMod G a0 w0) 24 [(0, .ref a0.1), (1, .int x1), (2, .int x2)] _ [.int r4, .ref a0.1] rfl rfl rfl rfl ?_
    refine v_if_eq (pc2 := 27) (tgt := 31) S dX9_walkNow_24 (by decide) rfl (fun c6 => ?_) (fun c6 => ?_)
    · have hw := hw.1 c6
      refine v_iconst (v := 5) (pc2 := 32) S dX9_walkNow_31 (by decide) rfl ?_
      refine v_callV (pc2 := 35) (As := [.int (5 : Int32)]) (rest := []) S (c_X9_refuse l G a0 w0 (5 : Int32) _ hw) mf_X9_refuse u_860 u_862 u_25 0 9 rfl rfl rfl rfl ⟨rfl, rfl⟩ ⟨Nat.le_of_ble_eq_true rfl, Nat.le_of_ble_eq_true rfl⟩ ⟨Nat.le_of_ble_eq_true rfl, Nat.le_of_ble_eq_true rfl⟩ (Nat.le_of_ble_eq_true rfl) dX9_walkNow_32 (frW _) rfl (pi (fun r7 u8 hw => ?_))
      refine v_to (wMod G a0 u8) 35 [(0, .ref a0.1), (1, .int x1), (2, .int x2)] _ [.int r7] rfl rfl rfl rfl ?_
      exact v_iret S ⟨r7, u8, rfl, rfl, hw⟩ dX9_walkNow_35
    · have hw := hw.2 c6
      refine v_iconst (v := 3) (pc2 := 28) S dX9_walkNow_27 (by decide) rfl ?_
      refine v_goto (tgt := 32) S dX9_walkNow_28 (by decide) ?_
      refine v_callV (pc2 := 35) (As := [.int (3 : Int32)]) (rest := []) S (c_X9_refuse l G a0 w0 (3 : Int32) _ hw) mf_X9_refuse u_860 u_862 u_25 0 9 rfl rfl rfl rfl ⟨rfl, rfl⟩ ⟨Nat.le_of_ble_eq_true rfl, Nat.le_of_ble_eq_true rfl⟩ ⟨Nat.le_of_ble_eq_true rfl, Nat.le_of_ble_eq_true rfl⟩ (Nat.le_of_ble_eq_true rfl) dX9_walkNow_32 (frW _) rfl (pi (fun r9 u10 hw => ?_))
      refine v_to (wMod G a0 u10) 35 [(0, .ref a0.1), (1, .int x1), (2, .int x2)] _ [.int r9] rfl rfl rfl rfl ?_
      exact v_iret S ⟨r9, u10, rfl, rfl, hw⟩ dX9_walkNow_35
  refine v_aload_n (pc2 := 1) S 0 dX9_walkNow_0 rfl rfl rfl ?_
  refine v_iload_n (pc2 := 2) S 1 dX9_walkNow_1 rfl rfl rfl ?_
  refine v_iload_n (pc2 := 3) S 2 dX9_walkNow_2 rfl rfl rfl ?_
  refine v_callV (pc2 := 6) (As := [.int i0, .int i1]) (rest := []) S (c_X9_isAt l G a0 v0 i0 i1 _ hw) mf_X9_isAt u_903 u_905 u_33 0 9 rfl rfl rfl rfl ⟨rfl, rfl⟩ ⟨Nat.le_of_ble_eq_true rfl, Nat.le_of_ble_eq_true rfl⟩ ⟨Nat.le_of_ble_eq_true rfl, Nat.le_of_ble_eq_true rfl⟩ (Nat.le_of_ble_eq_true rfl) dX9_walkNow_3 (frW _) rfl (pb (fun r1 u2 br1 hw => ?_))
  refine v_to (wMod G a0 v0) 6 [(0, .ref a0.1), (1, .int i0), (2, .int i1)] _ [.int r1] rfl rfl rfl rfl ?_
  refine v_if_eq (pc2 := 9) (tgt := 17) S dX9_walkNow_6 (by decide) rfl (fun c3 => ?_) (fun c3 => ?_)
  · have hw := hw.1 c3
    exact B17 i0 i1 v0 hw
  · have hw := hw.2 c3
    refine v_aload_n (pc2 := 10) S 0 dX9_walkNow_9 rfl rfl rfl ?_
    refine v_iload_n (pc2 := 11) S 2 dX9_walkNow_10 rfl rfl rfl ?_
    refine v_callV (pc2 := 14) (As := [.int i1]) (rest := []) S (c_X9_isOpen l G a0 v0 i1 _ hw) mf_X9_isOpen u_848 u_850 u_22 0 9 rfl rfl rfl rfl ⟨rfl, rfl⟩ ⟨Nat.le_of_ble_eq_true rfl, Nat.le_of_ble_eq_true rfl⟩ ⟨Nat.le_of_ble_eq_true rfl, Nat.le_of_ble_eq_true rfl⟩ (Nat.le_of_ble_eq_true rfl) dX9_walkNow_11 (frW _) rfl (pb (fun r11 u12 br11 hw => ?_))
    refine v_to (wMod G a0 v0) 14 [(0, .ref a0.1), (1, .int i0), (2, .int i1)] _ [.int r11] rfl rfl rfl rfl ?_
    refine v_if_ne (pc2 := 17) (tgt := 36) S dX9_walkNow_14 (by decide) rfl (fun c13 => ?_) (fun c13 => ?_)
    · have hw := hw.1 c13
      refine v_aload_n (pc2 := 37) S 0 dX9_walkNow_36 rfl rfl rfl ?_
      refine v_iload_n (pc2 := 38) S 2 dX9_walkNow_37 rfl rfl rfl ?_
      refine v_aload_n (pc2 := 39) S 0 dX9_walkNow_38 rfl rfl rfl ?_
      refine v_iload_n (pc2 := 40) S 1 dX9_walkNow_39 rfl rfl rfl ?_
      refine v_iconst (v := 0) (pc2 := 41) S dX9_walkNow_40 (by decide) rfl ?_
      refine v_callV (pc2 := 44) (As := [.int i0, .int (0 : Int32)]) (rest := [.int i1, .ref a0.1]) S (c_X9_ofGuest l G a0 v0 i0 (0 : Int32) _ hw) mf_X9_ofGuest u_907 u_909 u_34 0 9 rfl rfl rfl rfl ⟨rfl, rfl⟩ ⟨Nat.le_of_ble_eq_true rfl, Nat.le_of_ble_eq_true rfl⟩ ⟨Nat.le_of_ble_eq_true rfl, Nat.le_of_ble_eq_true rfl⟩ (Nat.le_of_ble_eq_true rfl) dX9_walkNow_41 (frW _) rfl (pi (fun r14 u15 hw => ?_))
      refine v_to (wMod G a0 v0) 44 [(0, .ref a0.1), (1, .int i0), (2, .int i1)] _ [.int r14, .int i1, .ref a0.1] rfl rfl rfl rfl ?_
      refine v_callV (pc2 := 47) (As := [.int i1, .int r14]) (rest := []) S (c_X9_across l G a0 v0 i1 r14 _ hw) mf_X9_across u_931 u_933 u_38 0 9 rfl rfl rfl rfl ⟨rfl, rfl⟩ ⟨Nat.le_of_ble_eq_true rfl, Nat.le_of_ble_eq_true rfl⟩ ⟨Nat.le_of_ble_eq_true rfl, Nat.le_of_ble_eq_true rfl⟩ (Nat.le_of_ble_eq_true rfl) dX9_walkNow_44 (frW _) rfl (pi (fun r16 u17 hw => ?_))
      refine v_to (wMod G a0 v0) 47 [(0, .ref a0.1), (1, .int i0), (2, .int i1)] _ [.int r16] rfl rfl rfl rfl ?_
      refine v_istore_n (lv2 := [(0, .ref a0.1), (1, .int i0), (2, .int i1), (3, .int r16)]) (pc2 := 48) S dX9_walkNow_47 rfl (by decide) [1, 2, 3, 0] rfl rfl ?_
      refine v_aload_n (pc2 := 49) S 0 dX9_walkNow_48 rfl rfl rfl ?_
      refine v_get (v := .ref a0.2.1) (pc2 := 52) S gf_X9_7 0 rfl rfl dX9_walkNow_49 rfl ?_
      refine v_bipush (v := 76) (pc2 := 54) S dX9_walkNow_52 (by decide) rfl ?_
      refine v_iconst (v := 3) (pc2 := 55) S dX9_walkNow_54 (by decide) rfl ?_
      refine v_iload_n (pc2 := 56) S 1 dX9_walkNow_55 rfl rfl rfl ?_
      refine v_imul (pc2 := 57) S dX9_walkNow_56 rfl ?_
      refine v_iadd (pc2 := 58) S dX9_walkNow_57 rfl ?_
      refine v_iconst (v := 0) (pc2 := 59) S dX9_walkNow_58 (by decide) rfl ?_
      refine v_iadd (pc2 := 60) S dX9_walkNow_59 rfl ?_
      refine v_iload_n (pc2 := 61) S 3 dX9_walkNow_60 rfl rfl rfl ?_
      obtain ⟨h18, hw⟩ := hw
      obtain ⟨g19, eg19⟩ : ∃ y : Nat → Int32, y = upd v0.1 (((76 : Int32) + ((3 : Int32) * i0)) + (0 : Int32)).toNatClampNeg r16 := ⟨_, rfl⟩
      have hw := hw g19 eg19
      refine v_iast (ws2 := wMod G a0 (g19, v0.2.1, v0.2.2.1, v0.2.2.2.1, v0.2.2.2.2.1, v0.2.2.2.2.2.1, v0.2.2.2.2.2.2.1, v0.2.2.2.2.2.2.2.1, v0.2.2.2.2.2.2.2.2.1, v0.2.2.2.2.2.2.2.2.2.1, v0.2.2.2.2.2.2.2.2.2.2.1, v0.2.2.2.2.2.2.2.2.2.2.2.1, v0.2.2.2.2.2.2.2.2.2.2.2.2.1, v0.2.2.2.2.2.2.2.2.2.2.2.2.2.1, v0.2.2.2.2.2.2.2.2.2.2.2.2.2.2.1, v0.2.2.2.2.2.2.2.2.2.2.2.2.2.2.2.1, v0.2.2.2.2.2.2.2.2.2.2.2.2.2.2.2.2)) (pc2 := 62) S 1 rfl h18 (by rw [eg19] <;> rfl) dX9_walkNow_61 rfl ?_
      refine v_aload_n (pc2 := 63) S 0 dX9_walkNow_62 rfl rfl rfl ?_
      refine v_get (v := .ref a0.2.1) (pc2 := 66) S gf_X9_7 0 rfl rfl dX9_walkNow_63 rfl ?_
      refine v_bipush (v := 76) (pc2 := 68) S dX9_walkNow_66 (by decide) rfl ?_
      refine v_iconst (v := 3) (pc2 := 69) S dX9_walkNow_68 (by decide) rfl ?_
      refine v_iload_n (pc2 := 70) S 1 dX9_walkNow_69 rfl rfl rfl ?_
      refine v_imul (pc2 := 71) S dX9_walkNow_70 rfl ?_
      refine v_iadd (pc2 := 72) S dX9_walkNow_71 rfl ?_
      refine v_iconst (v := 2) (pc2 := 73) S dX9_walkNow_72 (by decide) rfl ?_
      refine v_iadd (pc2 := 74) S dX9_walkNow_73 rfl ?_
      refine v_dup2 (pc2 := 75) S dX9_walkNow_74 rfl rfl rfl ?_
      obtain ⟨h20, hw⟩ := hw
      refine v_iald (pc2 := 76) S 1 rfl h20 dX9_walkNow_75 rfl ?_
      refine v_iconst (v := 1) (pc2 := 77) S dX9_walkNow_76 (by decide) rfl ?_
      refine v_iadd (pc2 := 78) S dX9_walkNow_77 rfl ?_
      obtain ⟨h21, hw⟩ := hw
      obtain ⟨g22, eg22⟩ : ∃ y : Nat → Int32, y = upd g19 (((76 : Int32) + ((3 : Int32) * i0)) + (2 : Int32)).toNatClampNeg ((g19 (((76 : Int32) + ((3 : Int32) * i0)) + (2 : Int32)).toNatClampNeg) + (1 : Int32)) := ⟨_, rfl⟩
      have hw := hw g22 eg22
      refine v_iast (ws2 := wMod G a0 (g22, v0.2.1, v0.2.2.1, v0.2.2.2.1, v0.2.2.2.2.1, v0.2.2.2.2.2.1, v0.2.2.2.2.2.2.1, v0.2.2.2.2.2.2.2.1, v0.2.2.2.2.2.2.2.2.1, v0.2.2.2.2.2.2.2.2.2.1, v0.2.2.2.2.2.2.2.2.2.2.1, v0.2.2.2.2.2.2.2.2.2.2.2.1, v0.2.2.2.2.2.2.2.2.2.2.2.2.1, v0.2.2.2.2.2.2.2.2.2.2.2.2.2.1, v0.2.2.2.2.2.2.2.2.2.2.2.2.2.2.1, v0.2.2.2.2.2.2.2.2.2.2.2.2.2.2.2.1, v0.2.2.2.2.2.2.2.2.2.2.2.2.2.2.2.2)) (pc2 := 79) S 1 rfl h21 (by rw [eg22] <;> rfl) dX9_walkNow_78 rfl ?_
      refine v_bipush (v := 10) (pc2 := 81) S dX9_walkNow_79 (by decide) rfl ?_
      refine v_iload_n (pc2 := 82) S 3 dX9_walkNow_81 rfl rfl rfl ?_
      refine v_iadd (pc2 := 83) S dX9_walkNow_82 rfl ?_
      exact v_iret S ⟨(10 : Int32) + r16, (g22, v0.2.1, v0.2.2.1, v0.2.2.2.1, v0.2.2.2.2.1, v0.2.2.2.2.2.1, v0.2.2.2.2.2.2.1, v0.2.2.2.2.2.2.2.1, v0.2.2.2.2.2.2.2.2.1, v0.2.2.2.2.2.2.2.2.2.1, v0.2.2.2.2.2.2.2.2.2.2.1, v0.2.2.2.2.2.2.2.2.2.2.2.1, v0.2.2.2.2.2.2.2.2.2.2.2.2.1, v0.2.2.2.2.2.2.2.2.2.2.2.2.2.1, v0.2.2.2.2.2.2.2.2.2.2.2.2.2.2.1, v0.2.2.2.2.2.2.2.2.2.2.2.2.2.2.2.1, v0.2.2.2.2.2.2.2.2.2.2.2.2.2.2.2.2), rfl, rfl, hw⟩ dX9_walkNow_83
    · have hw := hw.2 c13
      exact B17 i0 i1 v0 hw
set_option maxHeartbeats 4000000 in
set_option maxRecDepth 100000 in
theorem c_X9_open (l : Launch) (G : GG) (a0 : ModA) (v0 : ModV) (i0 : Int32) (Q : Int32 → ModV → Prop) (hw : wp_X9_open v0 i0 Q) : Con l G yX9_open cX9_open 2 (some .int) { frames := 5, cells := 0, slots := 0, locals := 113 } [.ref a0.1, .int i0] (wMod G a0 v0) (PI (fun u : ModV => wMod G a0 u) Q) 0 0 := by
  refine con_of RX9 rfl (by decide) [(0, .ref a0.1), (1, .int i0)] rfl (Nat.le_of_ble_eq_true rfl) ?_
  intro p e s m args below meth c S hname
  refine v_iload_n (pc2 := 1) S 1 dX9_open_0 rfl rfl rfl ?_
  refine v_callS (pc2 := 4) (As := [.int i0]) (rest := []) S (c_X9_isDoor l G i0 _ hw) mf_X9_isDoor u_834 u_835 rfl rfl ⟨rfl, rfl⟩ ⟨Nat.le_of_ble_eq_true rfl, Nat.le_of_ble_eq_true rfl⟩ ⟨Nat.le_of_ble_eq_true rfl, Nat.le_of_ble_eq_true rfl⟩ (Nat.le_of_ble_eq_true rfl) dX9_open_1 (frM [] [] _) rfl (pb (fun r1 u2 br1 hw => ?_))
  refine v_to (wMod G a0 v0) 4 [(0, .ref a0.1), (1, .int i0)] _ [.int r1] rfl rfl rfl rfl ?_
  refine v_if_ne (pc2 := 7) (tgt := 9) S dX9_open_4 (by decide) rfl (fun c3 => ?_) (fun c3 => ?_)
  · have hw := hw.1 c3
    refine v_aload_n (pc2 := 10) S 0 dX9_open_9 rfl rfl rfl ?_
    refine v_callV (pc2 := 13) (As := []) (rest := []) S (c_X9_record l G a0 v0 _ hw) mf_X9_record u_826 u_828 u_19 0 9 rfl rfl rfl rfl ⟨rfl, rfl⟩ ⟨Nat.le_of_ble_eq_true rfl, Nat.le_of_ble_eq_true rfl⟩ ⟨Nat.le_of_ble_eq_true rfl, Nat.le_of_ble_eq_true rfl⟩ (Nat.le_of_ble_eq_true rfl) dX9_open_10 (frW _) rfl (pv (fun u5 hw => ?_))
    refine v_to (wMod G a0 u5) 13 [(0, .ref a0.1), (1, .int i0)] _ [] rfl rfl rfl rfl ?_
    refine v_aload_n (pc2 := 14) S 0 dX9_open_13 rfl rfl rfl ?_
    refine v_iload_n (pc2 := 15) S 1 dX9_open_14 rfl rfl rfl ?_
    refine v_callV (pc2 := 18) (As := [.int i0]) (rest := []) S (c_X9_openNow l G a0 u5 i0 _ hw) mf_X9_openNow u_840 u_842 u_20 0 9 rfl rfl rfl rfl ⟨rfl, rfl⟩ ⟨Nat.le_of_ble_eq_true rfl, Nat.le_of_ble_eq_true rfl⟩ ⟨Nat.le_of_ble_eq_true rfl, Nat.le_of_ble_eq_true rfl⟩ (Nat.le_of_ble_eq_true rfl) dX9_open_15 (frW _) rfl (pi (fun r6 u7 hw => ?_))
    refine v_to (wMod G a0 u7) 18 [(0, .ref a0.1), (1, .int i0)] _ [.int r6] rfl rfl rfl rfl ?_
    exact v_iret S ⟨r6, u7, rfl, rfl, hw⟩ dX9_open_18
  · have hw := hw.2 c3
    refine v_iconst (v := -1) (pc2 := 8) S dX9_open_7 (by decide) rfl ?_
    exact v_iret S ⟨(-1 : Int32), v0, rfl, rfl, hw⟩ dX9_open_8
set_option maxHeartbeats 4000000 in
set_option maxRecDepth 100000 in
theorem c_X9_shut (l : Launch) (G : GG) (a0 : ModA) (v0 : ModV) (i0 : Int32) (Q : Int32 → ModV → Prop) (hw : wp_X9_shut v0 i0 Q) : Con l G yX9_shut cX9_shut 2 (some .int) { frames := 3, cells := 0, slots := 0, locals := 66 } [.ref a0.1, .int i0] (wMod G a0 v0) (PI (fun u : ModV => wMod G a0 u) Q) 0 0 := by
  refine con_of RX9 rfl (by decide) [(0, .ref a0.1), (1, .int i0)] rfl (Nat.le_of_ble_eq_true rfl) ?_
  intro p e s m args below meth c S hname
  refine v_iload_n (pc2 := 1) S 1 dX9_shut_0 rfl rfl rfl ?_
  refine v_callS (pc2 := 4) (As := [.int i0]) (rest := []) S (c_X9_isDoor l G i0 _ hw) mf_X9_isDoor u_834 u_835 rfl rfl ⟨rfl, rfl⟩ ⟨Nat.le_of_ble_eq_true rfl, Nat.le_of_ble_eq_true rfl⟩ ⟨Nat.le_of_ble_eq_true rfl, Nat.le_of_ble_eq_true rfl⟩ (Nat.le_of_ble_eq_true rfl) dX9_shut_1 (frM [] [] _) rfl (pb (fun r1 u2 br1 hw => ?_))
  refine v_to (wMod G a0 v0) 4 [(0, .ref a0.1), (1, .int i0)] _ [.int r1] rfl rfl rfl rfl ?_
  refine v_if_ne (pc2 := 7) (tgt := 9) S dX9_shut_4 (by decide) rfl (fun c3 => ?_) (fun c3 => ?_)
  · have hw := hw.1 c3
    refine v_aload_n (pc2 := 10) S 0 dX9_shut_9 rfl rfl rfl ?_
    refine v_callV (pc2 := 13) (As := []) (rest := []) S (c_X9_record l G a0 v0 _ hw) mf_X9_record u_826 u_828 u_19 0 9 rfl rfl rfl rfl ⟨rfl, rfl⟩ ⟨Nat.le_of_ble_eq_true rfl, Nat.le_of_ble_eq_true rfl⟩ ⟨Nat.le_of_ble_eq_true rfl, Nat.le_of_ble_eq_true rfl⟩ (Nat.le_of_ble_eq_true rfl) dX9_shut_10 (frW _) rfl (pv (fun u5 hw => ?_))
    refine v_to (wMod G a0 u5) 13 [(0, .ref a0.1), (1, .int i0)] _ [] rfl rfl rfl rfl ?_
    refine v_aload_n (pc2 := 14) S 0 dX9_shut_13 rfl rfl rfl ?_
    refine v_iload_n (pc2 := 15) S 1 dX9_shut_14 rfl rfl rfl ?_
    refine v_callV (pc2 := 18) (As := [.int i0]) (rest := []) S (c_X9_shutNow l G a0 u5 i0 _ hw) mf_X9_shutNow u_888 u_890 u_31 0 9 rfl rfl rfl rfl ⟨rfl, rfl⟩ ⟨Nat.le_of_ble_eq_true rfl, Nat.le_of_ble_eq_true rfl⟩ ⟨Nat.le_of_ble_eq_true rfl, Nat.le_of_ble_eq_true rfl⟩ (Nat.le_of_ble_eq_true rfl) dX9_shut_15 (frW _) rfl (pi (fun r6 u7 hw => ?_))
    refine v_to (wMod G a0 u7) 18 [(0, .ref a0.1), (1, .int i0)] _ [.int r6] rfl rfl rfl rfl ?_
    exact v_iret S ⟨r6, u7, rfl, rfl, hw⟩ dX9_shut_18
  · have hw := hw.2 c3
    refine v_iconst (v := -1) (pc2 := 8) S dX9_shut_7 (by decide) rfl ?_
    exact v_iret S ⟨(-1 : Int32), v0, rfl, rfl, hw⟩ dX9_shut_8
set_option maxHeartbeats 4000000 in
set_option maxRecDepth 100000 in
theorem c_X9_guestOpens (l : Launch) (G : GG) (a0 : ModA) (v0 : ModV) (i0 : Int32) (i1 : Int32) (Q : Int32 → ModV → Prop) (hw : wp_X9_guestOpens v0 i0 i1 Q) : Con l G yX9_guestOpens cX9_guestOpens 3 (some .int) { frames := 6, cells := 0, slots := 0, locals := 135 } [.ref a0.1, .int i0, .int i1] (wMod G a0 v0) (PI (fun u : ModV => wMod G a0 u) Q) 0 0 := by
  refine con_of RX9 rfl (by decide) [(0, .ref a0.1), (1, .int i0), (2, .int i1)] rfl (Nat.le_of_ble_eq_true rfl) ?_
  intro p e s m args below meth c S hname
  refine v_iload_n (pc2 := 1) S 1 dX9_guestOpens_0 rfl rfl rfl ?_
  refine v_callS (pc2 := 4) (As := [.int i0]) (rest := []) S (c_X9_isGuest l G i0 _ hw) mf_X9_isGuest u_896 u_897 rfl rfl ⟨rfl, rfl⟩ ⟨Nat.le_of_ble_eq_true rfl, Nat.le_of_ble_eq_true rfl⟩ ⟨Nat.le_of_ble_eq_true rfl, Nat.le_of_ble_eq_true rfl⟩ (Nat.le_of_ble_eq_true rfl) dX9_guestOpens_1 (frM [] [] _) rfl (pb (fun r1 u2 br1 hw => ?_))
  refine v_to (wMod G a0 v0) 4 [(0, .ref a0.1), (1, .int i0), (2, .int i1)] _ [.int r1] rfl rfl rfl rfl ?_
  refine v_if_eq (pc2 := 7) (tgt := 14) S dX9_guestOpens_4 (by decide) rfl (fun c3 => ?_) (fun c3 => ?_)
  · have hw := hw.1 c3
    refine v_iconst (v := -1) (pc2 := 15) S dX9_guestOpens_14 (by decide) rfl ?_
    exact v_iret S ⟨(-1 : Int32), v0, rfl, rfl, hw⟩ dX9_guestOpens_15
  · have hw := hw.2 c3
    refine v_iload_n (pc2 := 8) S 2 dX9_guestOpens_7 rfl rfl rfl ?_
    refine v_callS (pc2 := 11) (As := [.int i1]) (rest := []) S (c_X9_isDoor l G i1 _ hw) mf_X9_isDoor u_834 u_835 rfl rfl ⟨rfl, rfl⟩ ⟨Nat.le_of_ble_eq_true rfl, Nat.le_of_ble_eq_true rfl⟩ ⟨Nat.le_of_ble_eq_true rfl, Nat.le_of_ble_eq_true rfl⟩ (Nat.le_of_ble_eq_true rfl) dX9_guestOpens_8 (frM [] [] _) rfl (pb (fun r4 u5 br4 hw => ?_))
    refine v_to (wMod G a0 v0) 11 [(0, .ref a0.1), (1, .int i0), (2, .int i1)] _ [.int r4] rfl rfl rfl rfl ?_
    refine v_if_ne (pc2 := 14) (tgt := 16) S dX9_guestOpens_11 (by decide) rfl (fun c6 => ?_) (fun c6 => ?_)
    · have hw := hw.1 c6
      refine v_aload_n (pc2 := 17) S 0 dX9_guestOpens_16 rfl rfl rfl ?_
      refine v_callV (pc2 := 20) (As := []) (rest := []) S (c_X9_record l G a0 v0 _ hw) mf_X9_record u_826 u_828 u_19 0 9 rfl rfl rfl rfl ⟨rfl, rfl⟩ ⟨Nat.le_of_ble_eq_true rfl, Nat.le_of_ble_eq_true rfl⟩ ⟨Nat.le_of_ble_eq_true rfl, Nat.le_of_ble_eq_true rfl⟩ (Nat.le_of_ble_eq_true rfl) dX9_guestOpens_17 (frW _) rfl (pv (fun u8 hw => ?_))
      refine v_to (wMod G a0 u8) 20 [(0, .ref a0.1), (1, .int i0), (2, .int i1)] _ [] rfl rfl rfl rfl ?_
      refine v_aload_n (pc2 := 21) S 0 dX9_guestOpens_20 rfl rfl rfl ?_
      refine v_iload_n (pc2 := 22) S 1 dX9_guestOpens_21 rfl rfl rfl ?_
      refine v_iload_n (pc2 := 23) S 2 dX9_guestOpens_22 rfl rfl rfl ?_
      refine v_callV (pc2 := 26) (As := [.int i0, .int i1]) (rest := []) S (c_X9_guestOpensNow l G a0 u8 i0 i1 _ hw) mf_X9_guestOpensNow u_899 u_901 u_32 0 9 rfl rfl rfl rfl ⟨rfl, rfl⟩ ⟨Nat.le_of_ble_eq_true rfl, Nat.le_of_ble_eq_true rfl⟩ ⟨Nat.le_of_ble_eq_true rfl, Nat.le_of_ble_eq_true rfl⟩ (Nat.le_of_ble_eq_true rfl) dX9_guestOpens_23 (frW _) rfl (pi (fun r9 u10 hw => ?_))
      refine v_to (wMod G a0 u10) 26 [(0, .ref a0.1), (1, .int i0), (2, .int i1)] _ [.int r9] rfl rfl rfl rfl ?_
      exact v_iret S ⟨r9, u10, rfl, rfl, hw⟩ dX9_guestOpens_26
    · have hw := hw.2 c6
      refine v_iconst (v := -1) (pc2 := 15) S dX9_guestOpens_14 (by decide) rfl ?_
      exact v_iret S ⟨(-1 : Int32), v0, rfl, rfl, hw⟩ dX9_guestOpens_15
set_option maxHeartbeats 4000000 in
set_option maxRecDepth 100000 in
theorem c_X9_guestShuts (l : Launch) (G : GG) (a0 : ModA) (v0 : ModV) (i0 : Int32) (i1 : Int32) (Q : Int32 → ModV → Prop) (hw : wp_X9_guestShuts v0 i0 i1 Q) : Con l G yX9_guestShuts cX9_guestShuts 3 (some .int) { frames := 4, cells := 0, slots := 0, locals := 88 } [.ref a0.1, .int i0, .int i1] (wMod G a0 v0) (PI (fun u : ModV => wMod G a0 u) Q) 0 0 := by
  refine con_of RX9 rfl (by decide) [(0, .ref a0.1), (1, .int i0), (2, .int i1)] rfl (Nat.le_of_ble_eq_true rfl) ?_
  intro p e s m args below meth c S hname
  refine v_iload_n (pc2 := 1) S 1 dX9_guestShuts_0 rfl rfl rfl ?_
  refine v_callS (pc2 := 4) (As := [.int i0]) (rest := []) S (c_X9_isGuest l G i0 _ hw) mf_X9_isGuest u_896 u_897 rfl rfl ⟨rfl, rfl⟩ ⟨Nat.le_of_ble_eq_true rfl, Nat.le_of_ble_eq_true rfl⟩ ⟨Nat.le_of_ble_eq_true rfl, Nat.le_of_ble_eq_true rfl⟩ (Nat.le_of_ble_eq_true rfl) dX9_guestShuts_1 (frM [] [] _) rfl (pb (fun r1 u2 br1 hw => ?_))
  refine v_to (wMod G a0 v0) 4 [(0, .ref a0.1), (1, .int i0), (2, .int i1)] _ [.int r1] rfl rfl rfl rfl ?_
  refine v_if_eq (pc2 := 7) (tgt := 14) S dX9_guestShuts_4 (by decide) rfl (fun c3 => ?_) (fun c3 => ?_)
  · have hw := hw.1 c3
    refine v_iconst (v := -1) (pc2 := 15) S dX9_guestShuts_14 (by decide) rfl ?_
    exact v_iret S ⟨(-1 : Int32), v0, rfl, rfl, hw⟩ dX9_guestShuts_15
  · have hw := hw.2 c3
    refine v_iload_n (pc2 := 8) S 2 dX9_guestShuts_7 rfl rfl rfl ?_
    refine v_callS (pc2 := 11) (As := [.int i1]) (rest := []) S (c_X9_isDoor l G i1 _ hw) mf_X9_isDoor u_834 u_835 rfl rfl ⟨rfl, rfl⟩ ⟨Nat.le_of_ble_eq_true rfl, Nat.le_of_ble_eq_true rfl⟩ ⟨Nat.le_of_ble_eq_true rfl, Nat.le_of_ble_eq_true rfl⟩ (Nat.le_of_ble_eq_true rfl) dX9_guestShuts_8 (frM [] [] _) rfl (pb (fun r4 u5 br4 hw => ?_))
    refine v_to (wMod G a0 v0) 11 [(0, .ref a0.1), (1, .int i0), (2, .int i1)] _ [.int r4] rfl rfl rfl rfl ?_
    refine v_if_ne (pc2 := 14) (tgt := 16) S dX9_guestShuts_11 (by decide) rfl (fun c6 => ?_) (fun c6 => ?_)
    · have hw := hw.1 c6
      refine v_aload_n (pc2 := 17) S 0 dX9_guestShuts_16 rfl rfl rfl ?_
      refine v_callV (pc2 := 20) (As := []) (rest := []) S (c_X9_record l G a0 v0 _ hw) mf_X9_record u_826 u_828 u_19 0 9 rfl rfl rfl rfl ⟨rfl, rfl⟩ ⟨Nat.le_of_ble_eq_true rfl, Nat.le_of_ble_eq_true rfl⟩ ⟨Nat.le_of_ble_eq_true rfl, Nat.le_of_ble_eq_true rfl⟩ (Nat.le_of_ble_eq_true rfl) dX9_guestShuts_17 (frW _) rfl (pv (fun u8 hw => ?_))
      refine v_to (wMod G a0 u8) 20 [(0, .ref a0.1), (1, .int i0), (2, .int i1)] _ [] rfl rfl rfl rfl ?_
      refine v_aload_n (pc2 := 21) S 0 dX9_guestShuts_20 rfl rfl rfl ?_
      refine v_iload_n (pc2 := 22) S 1 dX9_guestShuts_21 rfl rfl rfl ?_
      refine v_iload_n (pc2 := 23) S 2 dX9_guestShuts_22 rfl rfl rfl ?_
      refine v_callV (pc2 := 26) (As := [.int i0, .int i1]) (rest := []) S (c_X9_guestShutsNow l G a0 u8 i0 i1 _ hw) mf_X9_guestShutsNow u_919 u_921 u_36 0 9 rfl rfl rfl rfl ⟨rfl, rfl⟩ ⟨Nat.le_of_ble_eq_true rfl, Nat.le_of_ble_eq_true rfl⟩ ⟨Nat.le_of_ble_eq_true rfl, Nat.le_of_ble_eq_true rfl⟩ (Nat.le_of_ble_eq_true rfl) dX9_guestShuts_23 (frW _) rfl (pi (fun r9 u10 hw => ?_))
      refine v_to (wMod G a0 u10) 26 [(0, .ref a0.1), (1, .int i0), (2, .int i1)] _ [.int r9] rfl rfl rfl rfl ?_
      exact v_iret S ⟨r9, u10, rfl, rfl, hw⟩ dX9_guestShuts_26
    · have hw := hw.2 c6
      refine v_iconst (v := -1) (pc2 := 15) S dX9_guestShuts_14 (by decide) rfl ?_
      exact v_iret S ⟨(-1 : Int32), v0, rfl, rfl, hw⟩ dX9_guestShuts_15
set_option maxHeartbeats 4000000 in
set_option maxRecDepth 100000 in
theorem c_X9_walk (l : Launch) (G : GG) (a0 : ModA) (v0 : ModV) (i0 : Int32) (i1 : Int32) (Q : Int32 → ModV → Prop) (hw : wp_X9_walk v0 i0 i1 Q) : Con l G yX9_walk cX9_walk 3 (some .int) { frames := 4, cells := 0, slots := 0, locals := 89 } [.ref a0.1, .int i0, .int i1] (wMod G a0 v0) (PI (fun u : ModV => wMod G a0 u) Q) 0 0 := by
  refine con_of RX9 rfl (by decide) [(0, .ref a0.1), (1, .int i0), (2, .int i1)] rfl (Nat.le_of_ble_eq_true rfl) ?_
  intro p e s m args below meth c S hname
  refine v_iload_n (pc2 := 1) S 1 dX9_walk_0 rfl rfl rfl ?_
  refine v_callS (pc2 := 4) (As := [.int i0]) (rest := []) S (c_X9_isGuest l G i0 _ hw) mf_X9_isGuest u_896 u_897 rfl rfl ⟨rfl, rfl⟩ ⟨Nat.le_of_ble_eq_true rfl, Nat.le_of_ble_eq_true rfl⟩ ⟨Nat.le_of_ble_eq_true rfl, Nat.le_of_ble_eq_true rfl⟩ (Nat.le_of_ble_eq_true rfl) dX9_walk_1 (frM [] [] _) rfl (pb (fun r1 u2 br1 hw => ?_))
  refine v_to (wMod G a0 v0) 4 [(0, .ref a0.1), (1, .int i0), (2, .int i1)] _ [.int r1] rfl rfl rfl rfl ?_
  refine v_if_eq (pc2 := 7) (tgt := 14) S dX9_walk_4 (by decide) rfl (fun c3 => ?_) (fun c3 => ?_)
  · have hw := hw.1 c3
    refine v_iconst (v := -1) (pc2 := 15) S dX9_walk_14 (by decide) rfl ?_
    exact v_iret S ⟨(-1 : Int32), v0, rfl, rfl, hw⟩ dX9_walk_15
  · have hw := hw.2 c3
    refine v_iload_n (pc2 := 8) S 2 dX9_walk_7 rfl rfl rfl ?_
    refine v_callS (pc2 := 11) (As := [.int i1]) (rest := []) S (c_X9_isDoor l G i1 _ hw) mf_X9_isDoor u_834 u_835 rfl rfl ⟨rfl, rfl⟩ ⟨Nat.le_of_ble_eq_true rfl, Nat.le_of_ble_eq_true rfl⟩ ⟨Nat.le_of_ble_eq_true rfl, Nat.le_of_ble_eq_true rfl⟩ (Nat.le_of_ble_eq_true rfl) dX9_walk_8 (frM [] [] _) rfl (pb (fun r4 u5 br4 hw => ?_))
    refine v_to (wMod G a0 v0) 11 [(0, .ref a0.1), (1, .int i0), (2, .int i1)] _ [.int r4] rfl rfl rfl rfl ?_
    refine v_if_ne (pc2 := 14) (tgt := 16) S dX9_walk_11 (by decide) rfl (fun c6 => ?_) (fun c6 => ?_)
    · have hw := hw.1 c6
      refine v_aload_n (pc2 := 17) S 0 dX9_walk_16 rfl rfl rfl ?_
      refine v_callV (pc2 := 20) (As := []) (rest := []) S (c_X9_record l G a0 v0 _ hw) mf_X9_record u_826 u_828 u_19 0 9 rfl rfl rfl rfl ⟨rfl, rfl⟩ ⟨Nat.le_of_ble_eq_true rfl, Nat.le_of_ble_eq_true rfl⟩ ⟨Nat.le_of_ble_eq_true rfl, Nat.le_of_ble_eq_true rfl⟩ (Nat.le_of_ble_eq_true rfl) dX9_walk_17 (frW _) rfl (pv (fun u8 hw => ?_))
      refine v_to (wMod G a0 u8) 20 [(0, .ref a0.1), (1, .int i0), (2, .int i1)] _ [] rfl rfl rfl rfl ?_
      refine v_aload_n (pc2 := 21) S 0 dX9_walk_20 rfl rfl rfl ?_
      refine v_iload_n (pc2 := 22) S 1 dX9_walk_21 rfl rfl rfl ?_
      refine v_iload_n (pc2 := 23) S 2 dX9_walk_22 rfl rfl rfl ?_
      refine v_callV (pc2 := 26) (As := [.int i0, .int i1]) (rest := []) S (c_X9_walkNow l G a0 u8 i0 i1 _ hw) mf_X9_walkNow u_927 u_929 u_37 0 9 rfl rfl rfl rfl ⟨rfl, rfl⟩ ⟨Nat.le_of_ble_eq_true rfl, Nat.le_of_ble_eq_true rfl⟩ ⟨Nat.le_of_ble_eq_true rfl, Nat.le_of_ble_eq_true rfl⟩ (Nat.le_of_ble_eq_true rfl) dX9_walk_23 (frW _) rfl (pi (fun r9 u10 hw => ?_))
      refine v_to (wMod G a0 u10) 26 [(0, .ref a0.1), (1, .int i0), (2, .int i1)] _ [.int r9] rfl rfl rfl rfl ?_
      exact v_iret S ⟨r9, u10, rfl, rfl, hw⟩ dX9_walk_26
    · have hw := hw.2 c6
      refine v_iconst (v := -1) (pc2 := 15) S dX9_walk_14 (by decide) rfl ?_
      exact v_iret S ⟨(-1 : Int32), v0, rfl, rfl, hw⟩ dX9_walk_15
set_option maxHeartbeats 4000000 in
set_option maxRecDepth 100000 in
theorem c_X9_cord (l : Launch) (G : GG) (a0 : ModA) (v0 : ModV) (i0 : Int32) (i1 : Int32) (i2 : Int32) (Q : Int32 → ModV → Prop) (hw : wp_X9_cord v0 i0 i1 i2 Q) : Con l G yX9_cord cX9_cord 4 (some .int) { frames := 2, cells := 0, slots := 0, locals := 45 } [.ref a0.1, .int i0, .int i1, .int i2] (wMod G a0 v0) (PI (fun u : ModV => wMod G a0 u) Q) 0 0 := by
  refine con_of RX9 rfl (by decide) [(0, .ref a0.1), (1, .int i0), (2, .int i1), (3, .int i2)] rfl (Nat.le_of_ble_eq_true rfl) ?_
  intro p e s m args below meth c S hname
  have B82 : ∀ (x1 : Int32) (x2 : Int32) (x3 : Int32) (w0 : ModV), wp_X9_cord_B82 x1 x2 x3 w0 Q → V p l e { frames := 2, cells := 0, slots := 0, locals := 45 } s m args below meth c G (va_A (wMod G a0 v0) s.heap.size) 4 0 0 (MQ below (EQ G (wMod G a0 v0) s.heap.size (PI (fun u : ModV => wMod G a0 u) Q)) args s 0 0 (va_A (wMod G a0 v0) s.heap.size)) (wMod G a0 w0) 82 [(0, .ref a0.1), (1, .int x1), (2, .int x2), (3, .int x3)] [] := by
    intro x1 x2 x3 w0 hw
    refine v_aload_n (pc2 := 83) S 0 dX9_cord_82 rfl rfl rfl ?_
    refine v_iload_n (pc2 := 84) S 1 dX9_cord_83 rfl rfl rfl ?_
    refine v_iload_n (pc2 := 85) S 2 dX9_cord_84 rfl rfl rfl ?_
    refine v_if_eq (pc2 := 88) (tgt := 92) S dX9_cord_85 (by decide) rfl (fun c12 => ?_) (fun c12 => ?_)
    · have hw := hw.1 c12
      refine v_iconst (v := 3) (pc2 := 93) S dX9_cord_92 (by decide) rfl ?_
      refine v_iload_n (pc2 := 94) S 3 dX9_cord_93 rfl rfl rfl ?_
      refine v_bipush (v := 10) (pc2 := 96) S dX9_cord_94 (by decide) rfl ?_
      refine v_icmp_ne (pc2 := 99) (tgt := 104) S dX9_cord_96 (by decide) rfl (fun c13 => ?_) (fun c13 => ?_)
      · have hw := hw.1 c13
        refine v_iload_n (pc2 := 105) S 3 dX9_cord_104 rfl rfl rfl ?_
        refine v_callV (pc2 := 108) (As := [.int x1, .int (3 : Int32), .int x3]) (rest := []) S (c_X9_lay l G a0 w0 x1 (3 : Int32) x3 _ hw) mf_X9_lay u_747 u_749 u_16 0 9 rfl rfl rfl rfl ⟨rfl, rfl⟩ ⟨Nat.le_of_ble_eq_true rfl, Nat.le_of_ble_eq_true rfl⟩ ⟨Nat.le_of_ble_eq_true rfl, Nat.le_of_ble_eq_true rfl⟩ (Nat.le_of_ble_eq_true rfl) dX9_cord_105 (frW _) rfl (pv (fun u15 hw => ?_))
        refine v_to (wMod G a0 u15) 108 [(0, .ref a0.1), (1, .int x1), (2, .int x2), (3, .int x3)] _ [] rfl rfl rfl rfl ?_
        refine v_bipush (v := 10) (pc2 := 110) S dX9_cord_108 (by decide) rfl ?_
        exact v_iret S ⟨(10 : Int32), u15, rfl, rfl, hw⟩ dX9_cord_110
      · have hw := hw.2 c13
        refine v_bipush (v := -4) (pc2 := 101) S dX9_cord_99 (by decide) rfl ?_
        refine v_goto (tgt := 105) S dX9_cord_101 (by decide) ?_
        refine v_callV (pc2 := 108) (As := [.int x1, .int (3 : Int32), .int (-4 : Int32)]) (rest := []) S (c_X9_lay l G a0 w0 x1 (3 : Int32) (-4 : Int32) _ hw) mf_X9_lay u_747 u_749 u_16 0 9 rfl rfl rfl rfl ⟨rfl, rfl⟩ ⟨Nat.le_of_ble_eq_true rfl, Nat.le_of_ble_eq_true rfl⟩ ⟨Nat.le_of_ble_eq_true rfl, Nat.le_of_ble_eq_true rfl⟩ (Nat.le_of_ble_eq_true rfl) dX9_cord_105 (frW _) rfl (pv (fun u17 hw => ?_))
        refine v_to (wMod G a0 u17) 108 [(0, .ref a0.1), (1, .int x1), (2, .int x2), (3, .int x3)] _ [] rfl rfl rfl rfl ?_
        refine v_bipush (v := 10) (pc2 := 110) S dX9_cord_108 (by decide) rfl ?_
        exact v_iret S ⟨(10 : Int32), u17, rfl, rfl, hw⟩ dX9_cord_110
    · have hw := hw.2 c12
      refine v_iconst (v := 4) (pc2 := 89) S dX9_cord_88 (by decide) rfl ?_
      refine v_goto (tgt := 93) S dX9_cord_89 (by decide) ?_
      refine v_iload_n (pc2 := 94) S 3 dX9_cord_93 rfl rfl rfl ?_
      refine v_bipush (v := 10) (pc2 := 96) S dX9_cord_94 (by decide) rfl ?_
      refine v_icmp_ne (pc2 := 99) (tgt := 104) S dX9_cord_96 (by decide) rfl (fun c18 => ?_) (fun c18 => ?_)
      · have hw := hw.1 c18
        refine v_iload_n (pc2 := 105) S 3 dX9_cord_104 rfl rfl rfl ?_
        refine v_callV (pc2 := 108) (As := [.int x1, .int (4 : Int32), .int x3]) (rest := []) S (c_X9_lay l G a0 w0 x1 (4 : Int32) x3 _ hw) mf_X9_lay u_747 u_749 u_16 0 9 rfl rfl rfl rfl ⟨rfl, rfl⟩ ⟨Nat.le_of_ble_eq_true rfl, Nat.le_of_ble_eq_true rfl⟩ ⟨Nat.le_of_ble_eq_true rfl, Nat.le_of_ble_eq_true rfl⟩ (Nat.le_of_ble_eq_true rfl) dX9_cord_105 (frW _) rfl (pv (fun u20 hw => ?_))
        refine v_to (wMod G a0 u20) 108 [(0, .ref a0.1), (1, .int x1), (2, .int x2), (3, .int x3)] _ [] rfl rfl rfl rfl ?_
        refine v_bipush (v := 10) (pc2 := 110) S dX9_cord_108 (by decide) rfl ?_
        exact v_iret S ⟨(10 : Int32), u20, rfl, rfl, hw⟩ dX9_cord_110
      · have hw := hw.2 c18
        refine v_bipush (v := -4) (pc2 := 101) S dX9_cord_99 (by decide) rfl ?_
        refine v_goto (tgt := 105) S dX9_cord_101 (by decide) ?_
        refine v_callV (pc2 := 108) (As := [.int x1, .int (4 : Int32), .int (-4 : Int32)]) (rest := []) S (c_X9_lay l G a0 w0 x1 (4 : Int32) (-4 : Int32) _ hw) mf_X9_lay u_747 u_749 u_16 0 9 rfl rfl rfl rfl ⟨rfl, rfl⟩ ⟨Nat.le_of_ble_eq_true rfl, Nat.le_of_ble_eq_true rfl⟩ ⟨Nat.le_of_ble_eq_true rfl, Nat.le_of_ble_eq_true rfl⟩ (Nat.le_of_ble_eq_true rfl) dX9_cord_105 (frW _) rfl (pv (fun u22 hw => ?_))
        refine v_to (wMod G a0 u22) 108 [(0, .ref a0.1), (1, .int x1), (2, .int x2), (3, .int x3)] _ [] rfl rfl rfl rfl ?_
        refine v_bipush (v := 10) (pc2 := 110) S dX9_cord_108 (by decide) rfl ?_
        exact v_iret S ⟨(10 : Int32), u22, rfl, rfl, hw⟩ dX9_cord_110
  have B50 : ∀ (x1 : Int32) (x2 : Int32) (x3 : Int32) (w0 : ModV), wp_X9_cord_B50 x1 x2 x3 w0 Q → V p l e { frames := 2, cells := 0, slots := 0, locals := 45 } s m args below meth c G (va_A (wMod G a0 v0) s.heap.size) 4 0 0 (MQ below (EQ G (wMod G a0 v0) s.heap.size (PI (fun u : ModV => wMod G a0 u) Q)) args s 0 0 (va_A (wMod G a0 v0) s.heap.size)) (wMod G a0 w0) 50 [(0, .ref a0.1), (1, .int x1), (2, .int x2), (3, .int x3)] [] := by
    intro x1 x2 x3 w0 hw
    refine v_aload_n (pc2 := 51) S 0 dX9_cord_50 rfl rfl rfl ?_
    refine v_callV (pc2 := 54) (As := []) (rest := []) S (c_X9_record l G a0 w0 _ hw) mf_X9_record u_826 u_828 u_19 0 9 rfl rfl rfl rfl ⟨rfl, rfl⟩ ⟨Nat.le_of_ble_eq_true rfl, Nat.le_of_ble_eq_true rfl⟩ ⟨Nat.le_of_ble_eq_true rfl, Nat.le_of_ble_eq_true rfl⟩ (Nat.le_of_ble_eq_true rfl) dX9_cord_51 (frW _) rfl (pv (fun u10 hw => ?_))
    refine v_to (wMod G a0 u10) 54 [(0, .ref a0.1), (1, .int x1), (2, .int x2), (3, .int x3)] _ [] rfl rfl rfl rfl ?_
    refine v_iload_n (pc2 := 55) S 3 dX9_cord_54 rfl rfl rfl ?_
    refine v_bipush (v := 10) (pc2 := 57) S dX9_cord_55 (by decide) rfl ?_
    refine v_icmp_ge (pc2 := 60) (tgt := 82) S dX9_cord_57 (by decide) rfl (fun c11 => ?_) (fun c11 => ?_)
    · have hw := hw.1 c11
      exact B82 x1 x2 x3 u10 hw
    · have hw := hw.2 c11
      refine v_aload_n (pc2 := 61) S 0 dX9_cord_60 rfl rfl rfl ?_
      refine v_iload_n (pc2 := 62) S 1 dX9_cord_61 rfl rfl rfl ?_
      refine v_callV (pc2 := 65) (As := [.int x1]) (rest := []) S (c_X9_isOpen l G a0 u10 x1 _ hw) mf_X9_isOpen u_848 u_850 u_22 0 9 rfl rfl rfl rfl ⟨rfl, rfl⟩ ⟨Nat.le_of_ble_eq_true rfl, Nat.le_of_ble_eq_true rfl⟩ ⟨Nat.le_of_ble_eq_true rfl, Nat.le_of_ble_eq_true rfl⟩ (Nat.le_of_ble_eq_true rfl) dX9_cord_62 (frW _) rfl (pb (fun r23 u24 br23 hw => ?_))
      refine v_to (wMod G a0 u10) 65 [(0, .ref a0.1), (1, .int x1), (2, .int x2), (3, .int x3)] _ [.int r23] rfl rfl rfl rfl ?_
      refine v_if_eq (pc2 := 68) (tgt := 82) S dX9_cord_65 (by decide) rfl (fun c25 => ?_) (fun c25 => ?_)
      · have hw := hw.1 c25
        exact B82 x1 x2 x3 u10 hw
      · have hw := hw.2 c25
        refine v_aload_n (pc2 := 69) S 0 dX9_cord_68 rfl rfl rfl ?_
        refine v_iload_n (pc2 := 70) S 3 dX9_cord_69 rfl rfl rfl ?_
        refine v_callV (pc2 := 73) (As := [.int x3]) (rest := []) S (c_X9_isOpen l G a0 u10 x3 _ hw) mf_X9_isOpen u_848 u_850 u_22 0 9 rfl rfl rfl rfl ⟨rfl, rfl⟩ ⟨Nat.le_of_ble_eq_true rfl, Nat.le_of_ble_eq_true rfl⟩ ⟨Nat.le_of_ble_eq_true rfl, Nat.le_of_ble_eq_true rfl⟩ (Nat.le_of_ble_eq_true rfl) dX9_cord_70 (frW _) rfl (pb (fun r26 u27 br26 hw => ?_))
        refine v_to (wMod G a0 u10) 73 [(0, .ref a0.1), (1, .int x1), (2, .int x2), (3, .int x3)] _ [.int r26] rfl rfl rfl rfl ?_
        refine v_if_eq (pc2 := 76) (tgt := 82) S dX9_cord_73 (by decide) rfl (fun c28 => ?_) (fun c28 => ?_)
        · have hw := hw.1 c28
          exact B82 x1 x2 x3 u10 hw
        · have hw := hw.2 c28
          refine v_aload_n (pc2 := 77) S 0 dX9_cord_76 rfl rfl rfl ?_
          refine v_iconst (v := 4) (pc2 := 78) S dX9_cord_77 (by decide) rfl ?_
          refine v_callV (pc2 := 81) (As := [.int (4 : Int32)]) (rest := []) S (c_X9_refuse l G a0 u10 (4 : Int32) _ hw) mf_X9_refuse u_860 u_862 u_25 0 9 rfl rfl rfl rfl ⟨rfl, rfl⟩ ⟨Nat.le_of_ble_eq_true rfl, Nat.le_of_ble_eq_true rfl⟩ ⟨Nat.le_of_ble_eq_true rfl, Nat.le_of_ble_eq_true rfl⟩ (Nat.le_of_ble_eq_true rfl) dX9_cord_78 (frW _) rfl (pi (fun r29 u30 hw => ?_))
          refine v_to (wMod G a0 u30) 81 [(0, .ref a0.1), (1, .int x1), (2, .int x2), (3, .int x3)] _ [.int r29] rfl rfl rfl rfl ?_
          exact v_iret S ⟨r29, u30, rfl, rfl, hw⟩ dX9_cord_81
  have B41 : ∀ (x1 : Int32) (x2 : Int32) (x3 : Int32) (t1 : Int32) (t2 : Int32) (w0 : ModV), wp_X9_cord_B41 x1 x2 x3 t1 t2 w0 Q → V p l e { frames := 2, cells := 0, slots := 0, locals := 45 } s m args below meth c G (va_A (wMod G a0 v0) s.heap.size) 4 0 0 (MQ below (EQ G (wMod G a0 v0) s.heap.size (PI (fun u : ModV => wMod G a0 u) Q)) args s 0 0 (va_A (wMod G a0 v0) s.heap.size)) (wMod G a0 w0) 41 [(0, .ref a0.1), (1, .int x1), (2, .int x2), (3, .int x3)] [.int t2, .int t1, .ref a0.1] := by
    intro x1 x2 x3 t1 t2 w0 hw
    refine v_callV (pc2 := 44) (As := [.int t1, .int t2]) (rest := []) S (c_X9_of l G a0 w0 t1 t2 _ hw) mf_X9_of u_818 u_820 u_18 0 9 rfl rfl rfl rfl ⟨rfl, rfl⟩ ⟨Nat.le_of_ble_eq_true rfl, Nat.le_of_ble_eq_true rfl⟩ ⟨Nat.le_of_ble_eq_true rfl, Nat.le_of_ble_eq_true rfl⟩ (Nat.le_of_ble_eq_true rfl) dX9_cord_41 (frW _) rfl (pi (fun r32 u33 hw => ?_))
    refine v_to (wMod G a0 w0) 44 [(0, .ref a0.1), (1, .int x1), (2, .int x2), (3, .int x3)] _ [.int r32] rfl rfl rfl rfl ?_
    refine v_iload_n (pc2 := 45) S 3 dX9_cord_44 rfl rfl rfl ?_
    refine v_icmp_ne (pc2 := 48) (tgt := 50) S dX9_cord_45 (by decide) rfl (fun c34 => ?_) (fun c34 => ?_)
    · have hw := hw.1 c34
      exact B50 x1 x2 x3 w0 hw
    · have hw := hw.2 c34
      refine v_iconst (v := -1) (pc2 := 49) S dX9_cord_48 (by decide) rfl ?_
      exact v_iret S ⟨(-1 : Int32), w0, rfl, rfl, hw⟩ dX9_cord_49
  refine v_iload_n (pc2 := 1) S 1 dX9_cord_0 rfl rfl rfl ?_
  refine v_callS (pc2 := 4) (As := [.int i0]) (rest := []) S (c_X9_isDoor l G i0 _ hw) mf_X9_isDoor u_834 u_835 rfl rfl ⟨rfl, rfl⟩ ⟨Nat.le_of_ble_eq_true rfl, Nat.le_of_ble_eq_true rfl⟩ ⟨Nat.le_of_ble_eq_true rfl, Nat.le_of_ble_eq_true rfl⟩ (Nat.le_of_ble_eq_true rfl) dX9_cord_1 (frM [] [] _) rfl (pb (fun r1 u2 br1 hw => ?_))
  refine v_to (wMod G a0 v0) 4 [(0, .ref a0.1), (1, .int i0), (2, .int i1), (3, .int i2)] _ [.int r1] rfl rfl rfl rfl ?_
  refine v_if_eq (pc2 := 7) (tgt := 22) S dX9_cord_4 (by decide) rfl (fun c3 => ?_) (fun c3 => ?_)
  · have hw := hw.1 c3
    refine v_iconst (v := -1) (pc2 := 23) S dX9_cord_22 (by decide) rfl ?_
    exact v_iret S ⟨(-1 : Int32), v0, rfl, rfl, hw⟩ dX9_cord_23
  · have hw := hw.2 c3
    refine v_iload_n (pc2 := 8) S 3 dX9_cord_7 rfl rfl rfl ?_
    refine v_iconst (v := 0) (pc2 := 9) S dX9_cord_8 (by decide) rfl ?_
    refine v_bipush (v := 10) (pc2 := 11) S dX9_cord_9 (by decide) rfl ?_
    refine v_callS (pc2 := 14) (As := [.int i2, .int (0 : Int32), .int (10 : Int32)]) (rest := []) S (c_X9_in l G i2 (0 : Int32) (10 : Int32) _ hw) mf_X9_in u_837 u_838 rfl rfl ⟨rfl, rfl⟩ ⟨Nat.le_of_ble_eq_true rfl, Nat.le_of_ble_eq_true rfl⟩ ⟨Nat.le_of_ble_eq_true rfl, Nat.le_of_ble_eq_true rfl⟩ (Nat.le_of_ble_eq_true rfl) dX9_cord_11 (frM [] [] _) rfl (pb (fun r4 u5 br4 hw => ?_))
    refine v_to (wMod G a0 v0) 14 [(0, .ref a0.1), (1, .int i0), (2, .int i1), (3, .int i2)] _ [.int r4] rfl rfl rfl rfl ?_
    refine v_if_eq (pc2 := 17) (tgt := 22) S dX9_cord_14 (by decide) rfl (fun c6 => ?_) (fun c6 => ?_)
    · have hw := hw.1 c6
      refine v_iconst (v := -1) (pc2 := 23) S dX9_cord_22 (by decide) rfl ?_
      exact v_iret S ⟨(-1 : Int32), v0, rfl, rfl, hw⟩ dX9_cord_23
    · have hw := hw.2 c6
      refine v_iload_n (pc2 := 18) S 3 dX9_cord_17 rfl rfl rfl ?_
      refine v_iload_n (pc2 := 19) S 1 dX9_cord_18 rfl rfl rfl ?_
      refine v_icmp_ne (pc2 := 22) (tgt := 24) S dX9_cord_19 (by decide) rfl (fun c7 => ?_) (fun c7 => ?_)
      · have hw := hw.1 c7
        refine v_iload_n (pc2 := 25) S 3 dX9_cord_24 rfl rfl rfl ?_
        refine v_bipush (v := 10) (pc2 := 27) S dX9_cord_25 (by decide) rfl ?_
        refine v_icmp_ge (pc2 := 30) (tgt := 50) S dX9_cord_27 (by decide) rfl (fun c8 => ?_) (fun c8 => ?_)
        · have hw := hw.1 c8
          exact B50 i0 i1 i2 v0 hw
        · have hw := hw.2 c8
          refine v_aload_n (pc2 := 31) S 0 dX9_cord_30 rfl rfl rfl ?_
          refine v_iload_n (pc2 := 32) S 1 dX9_cord_31 rfl rfl rfl ?_
          refine v_iload_n (pc2 := 33) S 2 dX9_cord_32 rfl rfl rfl ?_
          refine v_if_eq (pc2 := 36) (tgt := 40) S dX9_cord_33 (by decide) rfl (fun c31 => ?_) (fun c31 => ?_)
          · have hw := hw.1 c31
            refine v_iconst (v := 4) (pc2 := 41) S dX9_cord_40 (by decide) rfl ?_
            exact B41 i0 i1 i2 i0 (4 : Int32) v0 hw
          · have hw := hw.2 c31
            refine v_iconst (v := 3) (pc2 := 37) S dX9_cord_36 (by decide) rfl ?_
            refine v_goto (tgt := 41) S dX9_cord_37 (by decide) ?_
            exact B41 i0 i1 i2 i0 (3 : Int32) v0 hw
      · have hw := hw.2 c7
        refine v_iconst (v := -1) (pc2 := 23) S dX9_cord_22 (by decide) rfl ?_
        exact v_iret S ⟨(-1 : Int32), v0, rfl, rfl, hw⟩ dX9_cord_23
