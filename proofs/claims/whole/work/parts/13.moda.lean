set_option maxHeartbeats 4000000 in
set_option maxRecDepth 100000 in
theorem c_X9_lay (l : Launch) (G : GG) (a0 : ModA) (v0 : ModV) (i0 : Int32) (i1 : Int32) (i2 : Int32) (Q : ModV → Prop) (hw : wp_X9_lay v0 i0 i1 i2 Q) : Con l G yX9_lay cX9_lay 4 none { frames := 0, cells := 0, slots := 0, locals := 0 } [.ref a0.1, .int i0, .int i1, .int i2] (wMod G a0 v0.1 v0.2.1 v0.2.2.1 v0.2.2.2.1 v0.2.2.2.2.1 v0.2.2.2.2.2.1 v0.2.2.2.2.2.2.1 v0.2.2.2.2.2.2.2.1 v0.2.2.2.2.2.2.2.2.1 v0.2.2.2.2.2.2.2.2.2.1 v0.2.2.2.2.2.2.2.2.2.2.1 v0.2.2.2.2.2.2.2.2.2.2.2.1 v0.2.2.2.2.2.2.2.2.2.2.2.2.1 v0.2.2.2.2.2.2.2.2.2.2.2.2.2.1 v0.2.2.2.2.2.2.2.2.2.2.2.2.2.2.1 v0.2.2.2.2.2.2.2.2.2.2.2.2.2.2.2.1 v0.2.2.2.2.2.2.2.2.2.2.2.2.2.2.2.2) (PV (fun u : ModV => wMod G a0 u.1 u.2.1 u.2.2.1 u.2.2.2.1 u.2.2.2.2.1 u.2.2.2.2.2.1 u.2.2.2.2.2.2.1 u.2.2.2.2.2.2.2.1 u.2.2.2.2.2.2.2.2.1 u.2.2.2.2.2.2.2.2.2.1 u.2.2.2.2.2.2.2.2.2.2.1 u.2.2.2.2.2.2.2.2.2.2.2.1 u.2.2.2.2.2.2.2.2.2.2.2.2.1 u.2.2.2.2.2.2.2.2.2.2.2.2.2.1 u.2.2.2.2.2.2.2.2.2.2.2.2.2.2.1 u.2.2.2.2.2.2.2.2.2.2.2.2.2.2.2.1 u.2.2.2.2.2.2.2.2.2.2.2.2.2.2.2.2) Q) 0 0 := by
  refine con_of RX9 rfl (by decide) [(0, .ref a0.1), (1, .int i0), (2, .int i1), (3, .int i2)] rfl (Nat.le_of_ble_eq_true rfl) ?_
  intro p e s m args below meth c S hname
  refine v_aload_n (pc2 := 1) S 0 dX9_lay_0 rfl rfl rfl ?_
  refine v_get (v := .ref a0.2.1) (pc2 := 4) S gf_X9_7 0 rfl rfl dX9_lay_1 rfl ?_
  refine v_bipush (v := 6) (pc2 := 6) S dX9_lay_4 (by decide) rfl ?_
  refine v_bipush (v := 7) (pc2 := 8) S dX9_lay_6 (by decide) rfl ?_
  refine v_iload_n (pc2 := 9) S 1 dX9_lay_8 rfl rfl rfl ?_
  refine v_imul (pc2 := 10) S dX9_lay_9 rfl ?_
  refine v_iadd (pc2 := 11) S dX9_lay_10 rfl ?_
  refine v_iload_n (pc2 := 12) S 2 dX9_lay_11 rfl rfl rfl ?_
  refine v_iadd (pc2 := 13) S dX9_lay_12 rfl ?_
  refine v_iload_n (pc2 := 14) S 3 dX9_lay_13 rfl rfl rfl ?_
  obtain ⟨h1, hw⟩ := hw
  obtain ⟨g2, eg2⟩ : ∃ y : Nat → Int32, y = upd v0.1 (((6 : Int32) + ((7 : Int32) * i0)) + i1).toNatClampNeg i2 := ⟨_, rfl⟩
  have hw := hw g2 eg2
  refine v_iast (ws2 := wMod G a0 g2 v0.2.1 v0.2.2.1 v0.2.2.2.1 v0.2.2.2.2.1 v0.2.2.2.2.2.1 v0.2.2.2.2.2.2.1 v0.2.2.2.2.2.2.2.1 v0.2.2.2.2.2.2.2.2.1 v0.2.2.2.2.2.2.2.2.2.1 v0.2.2.2.2.2.2.2.2.2.2.1 v0.2.2.2.2.2.2.2.2.2.2.2.1 v0.2.2.2.2.2.2.2.2.2.2.2.2.1 v0.2.2.2.2.2.2.2.2.2.2.2.2.2.1 v0.2.2.2.2.2.2.2.2.2.2.2.2.2.2.1 v0.2.2.2.2.2.2.2.2.2.2.2.2.2.2.2.1 v0.2.2.2.2.2.2.2.2.2.2.2.2.2.2.2.2) (pc2 := 15) S 1 rfl h1 (by rw [eg2] <;> rfl) dX9_lay_14 rfl ?_
  exact v_vret S ⟨(g2, v0.2.1, v0.2.2.1, v0.2.2.2.1, v0.2.2.2.2.1, v0.2.2.2.2.2.1, v0.2.2.2.2.2.2.1, v0.2.2.2.2.2.2.2.1, v0.2.2.2.2.2.2.2.2.1, v0.2.2.2.2.2.2.2.2.2.1, v0.2.2.2.2.2.2.2.2.2.2.1, v0.2.2.2.2.2.2.2.2.2.2.2.1, v0.2.2.2.2.2.2.2.2.2.2.2.2.1, v0.2.2.2.2.2.2.2.2.2.2.2.2.2.1, v0.2.2.2.2.2.2.2.2.2.2.2.2.2.2.1, v0.2.2.2.2.2.2.2.2.2.2.2.2.2.2.2.1, v0.2.2.2.2.2.2.2.2.2.2.2.2.2.2.2.2), rfl, rfl, hw⟩ dX9_lay_15
set_option maxHeartbeats 4000000 in
set_option maxRecDepth 100000 in
theorem c_X9_init (l : Launch) (G : GG) (a0 : Nat) (Q : ModV → Prop) (hw : wp_X9_init Q) : Con l G yX9_init cX9_init 2 none { frames := 1, cells := 8, slots := 13067, locals := 23 } [.ref a0] [(a0, .inr (9, [.null, .null, .null, .int 0, .null, .int 0, .null, .int 0, .int 0, .int 0, .int 0, .int 0, .null, .int 0, .null, .null, .int 0]))] (PV (fun u : ModA × ModV => wMod G u.1 u.2.1 u.2.2.1 u.2.2.2.1 u.2.2.2.2.1 u.2.2.2.2.2.1 u.2.2.2.2.2.2.1 u.2.2.2.2.2.2.2.1 u.2.2.2.2.2.2.2.2.1 u.2.2.2.2.2.2.2.2.2.1 u.2.2.2.2.2.2.2.2.2.2.1 u.2.2.2.2.2.2.2.2.2.2.2.1 u.2.2.2.2.2.2.2.2.2.2.2.2.1 u.2.2.2.2.2.2.2.2.2.2.2.2.2.1 u.2.2.2.2.2.2.2.2.2.2.2.2.2.2.1 u.2.2.2.2.2.2.2.2.2.2.2.2.2.2.2.1 u.2.2.2.2.2.2.2.2.2.2.2.2.2.2.2.2.1 u.2.2.2.2.2.2.2.2.2.2.2.2.2.2.2.2.2) (fun u => u.1.1 = a0 ∧ Q u.2)) 8 13067 := by
  refine con_of RX9 rfl (by decide) [(0, .ref a0)] rfl (Nat.le_of_ble_eq_true rfl) ?_
  intro p e s m args below meth c S hname
  have L98 : ∀ (q1 : Nat) (q2 : Nat) (q3 : Nat) (q4 : Nat) (q5 : Nat) (q6 : Nat) (q7 : Nat) (q8 : Nat) (kk : Nat) (x1 : Int32) (w0 : ModV), wp_X9_init_L98 Q kk x1 w0 → V p l e { frames := 1, cells := 8, slots := 13067, locals := 23 } s m args below meth c G (va_A [(a0, .inr (9, [.null, .null, .null, .int 0, .null, .int 0, .null, .int 0, .int 0, .int 0, .int 0, .int 0, .null, .int 0, .null, .null, .int 0]))] s.heap.size) 2 8 13067 (MQ below (EQ G [(a0, .inr (9, [.null, .null, .null, .int 0, .null, .int 0, .null, .int 0, .int 0, .int 0, .int 0, .int 0, .null, .int 0, .null, .null, .int 0]))] s.heap.size (PV (fun u : ModA × ModV => wMod G u.1 u.2.1 u.2.2.1 u.2.2.2.1 u.2.2.2.2.1 u.2.2.2.2.2.1 u.2.2.2.2.2.2.1 u.2.2.2.2.2.2.2.1 u.2.2.2.2.2.2.2.2.1 u.2.2.2.2.2.2.2.2.2.1 u.2.2.2.2.2.2.2.2.2.2.1 u.2.2.2.2.2.2.2.2.2.2.2.1 u.2.2.2.2.2.2.2.2.2.2.2.2.1 u.2.2.2.2.2.2.2.2.2.2.2.2.2.1 u.2.2.2.2.2.2.2.2.2.2.2.2.2.2.1 u.2.2.2.2.2.2.2.2.2.2.2.2.2.2.2.1 u.2.2.2.2.2.2.2.2.2.2.2.2.2.2.2.2.1 u.2.2.2.2.2.2.2.2.2.2.2.2.2.2.2.2.2) (fun u => u.1.1 = a0 ∧ Q u.2))) args s 8 13067 (va_A [(a0, .inr (9, [.null, .null, .null, .int 0, .null, .int 0, .null, .int 0, .int 0, .int 0, .int 0, .int 0, .null, .int 0, .null, .null, .int 0]))] s.heap.size)) (wMod G (a0, q1, q2, q3, q4, q5, q6, q7, q8) w0.1 w0.2.1 w0.2.2.1 w0.2.2.2.1 w0.2.2.2.2.1 w0.2.2.2.2.2.1 w0.2.2.2.2.2.2.1 w0.2.2.2.2.2.2.2.1 w0.2.2.2.2.2.2.2.2.1 w0.2.2.2.2.2.2.2.2.2.1 w0.2.2.2.2.2.2.2.2.2.2.1 w0.2.2.2.2.2.2.2.2.2.2.2.1 w0.2.2.2.2.2.2.2.2.2.2.2.2.1 w0.2.2.2.2.2.2.2.2.2.2.2.2.2.1 w0.2.2.2.2.2.2.2.2.2.2.2.2.2.2.1 w0.2.2.2.2.2.2.2.2.2.2.2.2.2.2.2.1 w0.2.2.2.2.2.2.2.2.2.2.2.2.2.2.2.2) 98 [(0, .ref (((a0, q1, q2, q3, q4, q5, q6, q7, q8)).1)), (1, .int x1)] [] := by
    intro q1 q2 q3 q4 q5 q6 q7 q8 kk
    induction kk with
    | zero => intro x1 w0 hw; exact hw.elim
    | succ n ih =>
      intro x1 w0 hw
      refine v_iload_n (pc2 := 99) S 1 dX9_init_98 rfl rfl rfl ?_
      refine v_bipush (v := 10) (pc2 := 101) S dX9_init_99 (by decide) rfl ?_
      refine v_icmp_ge (pc2 := 104) (tgt := 156) S dX9_init_101 (by decide) rfl (fun c11 => ?_) (fun c11 => ?_)
      · have hw := hw.1 c11
        exact v_vret S ⟨((a0, q1, q2, q3, q4, q5, q6, q7, q8), w0), rfl, rfl, rfl, hw⟩ dX9_init_156
      · have hw := hw.2 c11
        refine v_aload_n (pc2 := 105) S 0 dX9_init_104 rfl rfl rfl ?_
        refine v_iload_n (pc2 := 106) S 1 dX9_init_105 rfl rfl rfl ?_
        refine v_iconst (v := 1) (pc2 := 107) S dX9_init_106 (by decide) rfl ?_
        refine v_iload_n (pc2 := 108) S 1 dX9_init_107 rfl rfl rfl ?_
        refine v_bipush (v := 6) (pc2 := 110) S dX9_init_108 (by decide) rfl ?_
        refine v_irem (pc2 := 111) S (by decide) dX9_init_110 rfl ?_
        refine v_callV (pc2 := 114) (As := [.int x1, .int (1 : Int32), .int (x1 - x1 / (6 : Int32) * (6 : Int32))]) (rest := []) S (c_X9_lay l G (a0, q1, q2, q3, q4, q5, q6, q7, q8) w0 x1 (1 : Int32) (x1 - x1 / (6 : Int32) * (6 : Int32)) _ hw) mf_X9_lay u_771 u_773 u_19 0 9 rfl rfl rfl rfl ⟨rfl, rfl⟩ ⟨Nat.le_of_ble_eq_true rfl, Nat.le_of_ble_eq_true rfl⟩ ⟨Nat.le_of_ble_eq_true rfl, Nat.le_of_ble_eq_true rfl⟩ (Nat.le_of_ble_eq_true rfl) dX9_init_111 (frW _) rfl (pv (fun u13 hw => ?_))
        refine v_to (wMod G (a0, q1, q2, q3, q4, q5, q6, q7, q8) u13.1 u13.2.1 u13.2.2.1 u13.2.2.2.1 u13.2.2.2.2.1 u13.2.2.2.2.2.1 u13.2.2.2.2.2.2.1 u13.2.2.2.2.2.2.2.1 u13.2.2.2.2.2.2.2.2.1 u13.2.2.2.2.2.2.2.2.2.1 u13.2.2.2.2.2.2.2.2.2.2.1 u13.2.2.2.2.2.2.2.2.2.2.2.1 u13.2.2.2.2.2.2.2.2.2.2.2.2.1 u13.2.2.2.2.2.2.2.2.2.2.2.2.2.1 u13.2.2.2.2.2.2.2.2.2.2.2.2.2.2.1 u13.2.2.2.2.2.2.2.2.2.2.2.2.2.2.2.1 u13.2.2.2.2.2.2.2.2.2.2.2.2.2.2.2.2) 114 [(0, .ref (((a0, q1, q2, q3, q4, q5, q6, q7, q8)).1)), (1, .int x1)] _ [] rfl rfl rfl rfl ?_
        refine v_aload_n (pc2 := 115) S 0 dX9_init_114 rfl rfl rfl ?_
        refine v_iload_n (pc2 := 116) S 1 dX9_init_115 rfl rfl rfl ?_
        refine v_iconst (v := 2) (pc2 := 117) S dX9_init_116 (by decide) rfl ?_
        refine v_iload_n (pc2 := 118) S 1 dX9_init_117 rfl rfl rfl ?_
        refine v_iconst (v := 1) (pc2 := 119) S dX9_init_118 (by decide) rfl ?_
        refine v_iadd (pc2 := 120) S dX9_init_119 rfl ?_
        refine v_bipush (v := 6) (pc2 := 122) S dX9_init_120 (by decide) rfl ?_
        refine v_irem (pc2 := 123) S (by decide) dX9_init_122 rfl ?_
        refine v_callV (pc2 := 126) (As := [.int x1, .int (2 : Int32), .int ((x1 + (1 : Int32)) - (x1 + (1 : Int32)) / (6 : Int32) * (6 : Int32))]) (rest := []) S (c_X9_lay l G (a0, q1, q2, q3, q4, q5, q6, q7, q8) u13 x1 (2 : Int32) ((x1 + (1 : Int32)) - (x1 + (1 : Int32)) / (6 : Int32) * (6 : Int32)) _ hw) mf_X9_lay u_771 u_773 u_19 0 9 rfl rfl rfl rfl ⟨rfl, rfl⟩ ⟨Nat.le_of_ble_eq_true rfl, Nat.le_of_ble_eq_true rfl⟩ ⟨Nat.le_of_ble_eq_true rfl, Nat.le_of_ble_eq_true rfl⟩ (Nat.le_of_ble_eq_true rfl) dX9_init_123 (frW _) rfl (pv (fun u15 hw => ?_))
        refine v_to (wMod G (a0, q1, q2, q3, q4, q5, q6, q7, q8) u15.1 u15.2.1 u15.2.2.1 u15.2.2.2.1 u15.2.2.2.2.1 u15.2.2.2.2.2.1 u15.2.2.2.2.2.2.1 u15.2.2.2.2.2.2.2.1 u15.2.2.2.2.2.2.2.2.1 u15.2.2.2.2.2.2.2.2.2.1 u15.2.2.2.2.2.2.2.2.2.2.1 u15.2.2.2.2.2.2.2.2.2.2.2.1 u15.2.2.2.2.2.2.2.2.2.2.2.2.1 u15.2.2.2.2.2.2.2.2.2.2.2.2.2.1 u15.2.2.2.2.2.2.2.2.2.2.2.2.2.2.1 u15.2.2.2.2.2.2.2.2.2.2.2.2.2.2.2.1 u15.2.2.2.2.2.2.2.2.2.2.2.2.2.2.2.2) 126 [(0, .ref (((a0, q1, q2, q3, q4, q5, q6, q7, q8)).1)), (1, .int x1)] _ [] rfl rfl rfl rfl ?_
        refine v_aload_n (pc2 := 127) S 0 dX9_init_126 rfl rfl rfl ?_
        refine v_iload_n (pc2 := 128) S 1 dX9_init_127 rfl rfl rfl ?_
        refine v_iconst (v := 3) (pc2 := 129) S dX9_init_128 (by decide) rfl ?_
        refine v_iload_n (pc2 := 130) S 1 dX9_init_129 rfl rfl rfl ?_
        refine v_iconst (v := 1) (pc2 := 131) S dX9_init_130 (by decide) rfl ?_
        refine v_iadd (pc2 := 132) S dX9_init_131 rfl ?_
        refine v_bipush (v := 10) (pc2 := 134) S dX9_init_132 (by decide) rfl ?_
        refine v_irem (pc2 := 135) S (by decide) dX9_init_134 rfl ?_
        refine v_callV (pc2 := 138) (As := [.int x1, .int (3 : Int32), .int ((x1 + (1 : Int32)) - (x1 + (1 : Int32)) / (10 : Int32) * (10 : Int32))]) (rest := []) S (c_X9_lay l G (a0, q1, q2, q3, q4, q5, q6, q7, q8) u15 x1 (3 : Int32) ((x1 + (1 : Int32)) - (x1 + (1 : Int32)) / (10 : Int32) * (10 : Int32)) _ hw) mf_X9_lay u_771 u_773 u_19 0 9 rfl rfl rfl rfl ⟨rfl, rfl⟩ ⟨Nat.le_of_ble_eq_true rfl, Nat.le_of_ble_eq_true rfl⟩ ⟨Nat.le_of_ble_eq_true rfl, Nat.le_of_ble_eq_true rfl⟩ (Nat.le_of_ble_eq_true rfl) dX9_init_135 (frW _) rfl (pv (fun u17 hw => ?_))
        refine v_to (wMod G (a0, q1, q2, q3, q4, q5, q6, q7, q8) u17.1 u17.2.1 u17.2.2.1 u17.2.2.2.1 u17.2.2.2.2.1 u17.2.2.2.2.2.1 u17.2.2.2.2.2.2.1 u17.2.2.2.2.2.2.2.1 u17.2.2.2.2.2.2.2.2.1 u17.2.2.2.2.2.2.2.2.2.1 u17.2.2.2.2.2.2.2.2.2.2.1 u17.2.2.2.2.2.2.2.2.2.2.2.1 u17.2.2.2.2.2.2.2.2.2.2.2.2.1 u17.2.2.2.2.2.2.2.2.2.2.2.2.2.1 u17.2.2.2.2.2.2.2.2.2.2.2.2.2.2.1 u17.2.2.2.2.2.2.2.2.2.2.2.2.2.2.2.1 u17.2.2.2.2.2.2.2.2.2.2.2.2.2.2.2.2) 138 [(0, .ref (((a0, q1, q2, q3, q4, q5, q6, q7, q8)).1)), (1, .int x1)] _ [] rfl rfl rfl rfl ?_
        refine v_aload_n (pc2 := 139) S 0 dX9_init_138 rfl rfl rfl ?_
        refine v_iload_n (pc2 := 140) S 1 dX9_init_139 rfl rfl rfl ?_
        refine v_iconst (v := 4) (pc2 := 141) S dX9_init_140 (by decide) rfl ?_
        refine v_iload_n (pc2 := 142) S 1 dX9_init_141 rfl rfl rfl ?_
        refine v_iconst (v := 3) (pc2 := 143) S dX9_init_142 (by decide) rfl ?_
        refine v_iadd (pc2 := 144) S dX9_init_143 rfl ?_
        refine v_bipush (v := 10) (pc2 := 146) S dX9_init_144 (by decide) rfl ?_
        refine v_irem (pc2 := 147) S (by decide) dX9_init_146 rfl ?_
        refine v_callV (pc2 := 150) (As := [.int x1, .int (4 : Int32), .int ((x1 + (3 : Int32)) - (x1 + (3 : Int32)) / (10 : Int32) * (10 : Int32))]) (rest := []) S (c_X9_lay l G (a0, q1, q2, q3, q4, q5, q6, q7, q8) u17 x1 (4 : Int32) ((x1 + (3 : Int32)) - (x1 + (3 : Int32)) / (10 : Int32) * (10 : Int32)) _ hw) mf_X9_lay u_771 u_773 u_19 0 9 rfl rfl rfl rfl ⟨rfl, rfl⟩ ⟨Nat.le_of_ble_eq_true rfl, Nat.le_of_ble_eq_true rfl⟩ ⟨Nat.le_of_ble_eq_true rfl, Nat.le_of_ble_eq_true rfl⟩ (Nat.le_of_ble_eq_true rfl) dX9_init_147 (frW _) rfl (pv (fun u19 hw => ?_))
        refine v_to (wMod G (a0, q1, q2, q3, q4, q5, q6, q7, q8) u19.1 u19.2.1 u19.2.2.1 u19.2.2.2.1 u19.2.2.2.2.1 u19.2.2.2.2.2.1 u19.2.2.2.2.2.2.1 u19.2.2.2.2.2.2.2.1 u19.2.2.2.2.2.2.2.2.1 u19.2.2.2.2.2.2.2.2.2.1 u19.2.2.2.2.2.2.2.2.2.2.1 u19.2.2.2.2.2.2.2.2.2.2.2.1 u19.2.2.2.2.2.2.2.2.2.2.2.2.1 u19.2.2.2.2.2.2.2.2.2.2.2.2.2.1 u19.2.2.2.2.2.2.2.2.2.2.2.2.2.2.1 u19.2.2.2.2.2.2.2.2.2.2.2.2.2.2.2.1 u19.2.2.2.2.2.2.2.2.2.2.2.2.2.2.2.2) 150 [(0, .ref (((a0, q1, q2, q3, q4, q5, q6, q7, q8)).1)), (1, .int x1)] _ [] rfl rfl rfl rfl ?_
        obtain ⟨z20, ez20⟩ : ∃ y : Int32, y = x1 + (1 : Int32) := ⟨_, rfl⟩
        have hw := hw z20 ez20
        refine v_iinc (v := z20) (lv2 := [(0, .ref (((a0, q1, q2, q3, q4, q5, q6, q7, q8)).1)), (1, .int z20)]) (pc2 := 153) S 1 dX9_init_150 rfl (by rw [ez20]; rfl) (by decide) [1, 0] rfl rfl ?_
        refine v_goto (tgt := 98) S dX9_init_153 (by decide) ?_
        exact ih z20 u19 hw
  refine v_aload_n (pc2 := 1) S 0 dX9_init_0 rfl rfl rfl ?_
  refine v_objInit (pc2 := 4) S u_770 u_83 u_84 (Nat.le_of_ble_eq_true rfl) (Nat.le_of_ble_eq_true rfl) dX9_init_1 rfl ?_
  refine v_aload_n (pc2 := 5) S 0 dX9_init_4 rfl rfl rfl ?_
  refine v_bipush (v := 85) (pc2 := 7) S dX9_init_5 (by decide) rfl ?_
  refine v_newa (pc2 := 9) (N := 85) S u_130 (by decide) (by decide) (Nat.le_of_ble_eq_true rfl) (Nat.le_of_ble_eq_true rfl) (Nat.le_of_ble_eq_true rfl) dX9_init_7 rfl (fun q1 => ?_)
  refine v_to ([(a0, .inr (9, [.null, .null, .null, .int 0, .null, .int 0, .null, .int 0, .int 0, .int 0, .int 0, .int 0, .null, .int 0, .null, .null, .int 0])), (q1, .inl (G.2.1, 85, .inl (fun _ => 0)))]) 9 [(0, .ref a0)] _ [.ref q1, .ref a0] rfl rfl rfl rfl ?_
  refine v_putF (ws2 := [(a0, .inr (9, [.ref q1, .null, .null, .int 0, .null, .int 0, .null, .int 0, .int 0, .int 0, .int 0, .int 0, .null, .int 0, .null, .null, .int 0])), (q1, .inl (G.2.1, 85, .inl (fun _ => 0)))]) (pc2 := 12) S (show meth.name = "<init>" from hname) gf_X9_7 pf_X9_0 rfl 0 rfl rfl rfl (Nat.le_of_ble_eq_true rfl) rfl dX9_init_9 rfl ?_
  refine v_aload_n (pc2 := 13) S 0 dX9_init_12 rfl rfl rfl ?_
  refine v_bipush (v := 85) (pc2 := 15) S dX9_init_13 (by decide) rfl ?_
  refine v_newa (pc2 := 17) (N := 85) S u_130 (by decide) (by decide) (Nat.le_of_ble_eq_true rfl) (Nat.le_of_ble_eq_true rfl) (Nat.le_of_ble_eq_true rfl) dX9_init_15 rfl (fun q2 => ?_)
  refine v_to ([(a0, .inr (9, [.ref q1, .null, .null, .int 0, .null, .int 0, .null, .int 0, .int 0, .int 0, .int 0, .int 0, .null, .int 0, .null, .null, .int 0])), (q1, .inl (G.2.1, 85, .inl (fun _ => 0))), (q2, .inl (G.2.1, 85, .inl (fun _ => 0)))]) 17 [(0, .ref a0)] _ [.ref q2, .ref a0] rfl rfl rfl rfl ?_
  refine v_putF (ws2 := [(a0, .inr (9, [.ref q1, .ref q2, .null, .int 0, .null, .int 0, .null, .int 0, .int 0, .int 0, .int 0, .int 0, .null, .int 0, .null, .null, .int 0])), (q1, .inl (G.2.1, 85, .inl (fun _ => 0))), (q2, .inl (G.2.1, 85, .inl (fun _ => 0)))]) (pc2 := 20) S (show meth.name = "<init>" from hname) gf_X9_13 pf_X9_1 rfl 0 rfl rfl rfl (Nat.le_of_ble_eq_true rfl) rfl dX9_init_17 rfl ?_
  refine v_aload_n (pc2 := 21) S 0 dX9_init_20 rfl rfl rfl ?_
  refine v_sipush (v := 340) (pc2 := 24) S dX9_init_21 (by decide) rfl ?_
  refine v_newa (pc2 := 26) (N := 340) S u_130 (by decide) (by decide) (Nat.le_of_ble_eq_true rfl) (Nat.le_of_ble_eq_true rfl) (Nat.le_of_ble_eq_true rfl) dX9_init_24 rfl (fun q3 => ?_)
  refine v_to ([(a0, .inr (9, [.ref q1, .ref q2, .null, .int 0, .null, .int 0, .null, .int 0, .int 0, .int 0, .int 0, .int 0, .null, .int 0, .null, .null, .int 0])), (q1, .inl (G.2.1, 85, .inl (fun _ => 0))), (q2, .inl (G.2.1, 85, .inl (fun _ => 0))), (q3, .inl (G.2.1, 340, .inl (fun _ => 0)))]) 26 [(0, .ref a0)] _ [.ref q3, .ref a0] rfl rfl rfl rfl ?_
  refine v_putF (ws2 := [(a0, .inr (9, [.ref q1, .ref q2, .ref q3, .int 0, .null, .int 0, .null, .int 0, .int 0, .int 0, .int 0, .int 0, .null, .int 0, .null, .null, .int 0])), (q1, .inl (G.2.1, 85, .inl (fun _ => 0))), (q2, .inl (G.2.1, 85, .inl (fun _ => 0))), (q3, .inl (G.2.1, 340, .inl (fun _ => 0)))]) (pc2 := 29) S (show meth.name = "<init>" from hname) gf_X9_16 pf_X9_2 rfl 0 rfl rfl rfl (Nat.le_of_ble_eq_true rfl) rfl dX9_init_26 rfl ?_
  refine v_aload_n (pc2 := 30) S 0 dX9_init_29 rfl rfl rfl ?_
  refine v_bipush (v := 85) (pc2 := 32) S dX9_init_30 (by decide) rfl ?_
  refine v_newa (pc2 := 34) (N := 85) S u_130 (by decide) (by decide) (Nat.le_of_ble_eq_true rfl) (Nat.le_of_ble_eq_true rfl) (Nat.le_of_ble_eq_true rfl) dX9_init_32 rfl (fun q4 => ?_)
  refine v_to ([(a0, .inr (9, [.ref q1, .ref q2, .ref q3, .int 0, .null, .int 0, .null, .int 0, .int 0, .int 0, .int 0, .int 0, .null, .int 0, .null, .null, .int 0])), (q1, .inl (G.2.1, 85, .inl (fun _ => 0))), (q2, .inl (G.2.1, 85, .inl (fun _ => 0))), (q3, .inl (G.2.1, 340, .inl (fun _ => 0))), (q4, .inl (G.2.1, 85, .inl (fun _ => 0)))]) 34 [(0, .ref a0)] _ [.ref q4, .ref a0] rfl rfl rfl rfl ?_
  refine v_putF (ws2 := [(a0, .inr (9, [.ref q1, .ref q2, .ref q3, .int 0, .ref q4, .int 0, .null, .int 0, .int 0, .int 0, .int 0, .int 0, .null, .int 0, .null, .null, .int 0])), (q1, .inl (G.2.1, 85, .inl (fun _ => 0))), (q2, .inl (G.2.1, 85, .inl (fun _ => 0))), (q3, .inl (G.2.1, 340, .inl (fun _ => 0))), (q4, .inl (G.2.1, 85, .inl (fun _ => 0)))]) (pc2 := 37) S (show meth.name = "<init>" from hname) gf_X9_19 pf_X9_4 rfl 0 rfl rfl rfl (Nat.le_of_ble_eq_true rfl) rfl dX9_init_34 rfl ?_
  refine v_aload_n (pc2 := 38) S 0 dX9_init_37 rfl rfl rfl ?_
  refine v_bipush (v := 60) (pc2 := 40) S dX9_init_38 (by decide) rfl ?_
  refine v_newa (pc2 := 42) (N := 60) S u_130 (by decide) (by decide) (Nat.le_of_ble_eq_true rfl) (Nat.le_of_ble_eq_true rfl) (Nat.le_of_ble_eq_true rfl) dX9_init_40 rfl (fun q5 => ?_)
  refine v_to ([(a0, .inr (9, [.ref q1, .ref q2, .ref q3, .int 0, .ref q4, .int 0, .null, .int 0, .int 0, .int 0, .int 0, .int 0, .null, .int 0, .null, .null, .int 0])), (q1, .inl (G.2.1, 85, .inl (fun _ => 0))), (q2, .inl (G.2.1, 85, .inl (fun _ => 0))), (q3, .inl (G.2.1, 340, .inl (fun _ => 0))), (q4, .inl (G.2.1, 85, .inl (fun _ => 0))), (q5, .inl (G.2.1, 60, .inl (fun _ => 0)))]) 42 [(0, .ref a0)] _ [.ref q5, .ref a0] rfl rfl rfl rfl ?_
  refine v_putF (ws2 := [(a0, .inr (9, [.ref q1, .ref q2, .ref q3, .int 0, .ref q4, .int 0, .ref q5, .int 0, .int 0, .int 0, .int 0, .int 0, .null, .int 0, .null, .null, .int 0])), (q1, .inl (G.2.1, 85, .inl (fun _ => 0))), (q2, .inl (G.2.1, 85, .inl (fun _ => 0))), (q3, .inl (G.2.1, 340, .inl (fun _ => 0))), (q4, .inl (G.2.1, 85, .inl (fun _ => 0))), (q5, .inl (G.2.1, 60, .inl (fun _ => 0)))]) (pc2 := 45) S (show meth.name = "<init>" from hname) gf_X9_22 pf_X9_6 rfl 0 rfl rfl rfl (Nat.le_of_ble_eq_true rfl) rfl dX9_init_42 rfl ?_
  refine v_aload_n (pc2 := 46) S 0 dX9_init_45 rfl rfl rfl ?_
  refine v_bipush (v := -4) (pc2 := 48) S dX9_init_46 (by decide) rfl ?_
  refine v_put (ws2 := [(a0, .inr (9, [.ref q1, .ref q2, .ref q3, .int 0, .ref q4, .int 0, .ref q5, .int 0, .int (-4 : Int32), .int 0, .int 0, .int 0, .null, .int 0, .null, .null, .int 0])), (q1, .inl (G.2.1, 85, .inl (fun _ => 0))), (q2, .inl (G.2.1, 85, .inl (fun _ => 0))), (q3, .inl (G.2.1, 340, .inl (fun _ => 0))), (q4, .inl (G.2.1, 85, .inl (fun _ => 0))), (q5, .inl (G.2.1, 60, .inl (fun _ => 0)))]) (pc2 := 51) S gf_X9_25 pf_X9_8 0 rfl rfl rfl (Nat.le_of_ble_eq_true rfl) rfl dX9_init_48 rfl ?_
  refine v_aload_n (pc2 := 52) S 0 dX9_init_51 rfl rfl rfl ?_
  refine v_bipush (v := -4) (pc2 := 54) S dX9_init_52 (by decide) rfl ?_
  refine v_put (ws2 := [(a0, .inr (9, [.ref q1, .ref q2, .ref q3, .int 0, .ref q4, .int 0, .ref q5, .int 0, .int (-4 : Int32), .int (-4 : Int32), .int 0, .int 0, .null, .int 0, .null, .null, .int 0])), (q1, .inl (G.2.1, 85, .inl (fun _ => 0))), (q2, .inl (G.2.1, 85, .inl (fun _ => 0))), (q3, .inl (G.2.1, 340, .inl (fun _ => 0))), (q4, .inl (G.2.1, 85, .inl (fun _ => 0))), (q5, .inl (G.2.1, 60, .inl (fun _ => 0)))]) (pc2 := 57) S gf_X9_29 pf_X9_9 0 rfl rfl rfl (Nat.le_of_ble_eq_true rfl) rfl dX9_init_54 rfl ?_
  refine v_aload_n (pc2 := 58) S 0 dX9_init_57 rfl rfl rfl ?_
  refine v_bipush (v := -4) (pc2 := 60) S dX9_init_58 (by decide) rfl ?_
  refine v_put (ws2 := [(a0, .inr (9, [.ref q1, .ref q2, .ref q3, .int 0, .ref q4, .int 0, .ref q5, .int 0, .int (-4 : Int32), .int (-4 : Int32), .int (-4 : Int32), .int 0, .null, .int 0, .null, .null, .int 0])), (q1, .inl (G.2.1, 85, .inl (fun _ => 0))), (q2, .inl (G.2.1, 85, .inl (fun _ => 0))), (q3, .inl (G.2.1, 340, .inl (fun _ => 0))), (q4, .inl (G.2.1, 85, .inl (fun _ => 0))), (q5, .inl (G.2.1, 60, .inl (fun _ => 0)))]) (pc2 := 63) S gf_X9_32 pf_X9_10 0 rfl rfl rfl (Nat.le_of_ble_eq_true rfl) rfl dX9_init_60 rfl ?_
  refine v_aload_n (pc2 := 64) S 0 dX9_init_63 rfl rfl rfl ?_
  refine v_bipush (v := 124) (pc2 := 66) S dX9_init_64 (by decide) rfl ?_
  refine v_newa (pc2 := 68) (N := 124) S u_130 (by decide) (by decide) (Nat.le_of_ble_eq_true rfl) (Nat.le_of_ble_eq_true rfl) (Nat.le_of_ble_eq_true rfl) dX9_init_66 rfl (fun q6 => ?_)
  refine v_to ([(a0, .inr (9, [.ref q1, .ref q2, .ref q3, .int 0, .ref q4, .int 0, .ref q5, .int 0, .int (-4 : Int32), .int (-4 : Int32), .int (-4 : Int32), .int 0, .null, .int 0, .null, .null, .int 0])), (q1, .inl (G.2.1, 85, .inl (fun _ => 0))), (q2, .inl (G.2.1, 85, .inl (fun _ => 0))), (q3, .inl (G.2.1, 340, .inl (fun _ => 0))), (q4, .inl (G.2.1, 85, .inl (fun _ => 0))), (q5, .inl (G.2.1, 60, .inl (fun _ => 0))), (q6, .inl (G.2.1, 124, .inl (fun _ => 0)))]) 68 [(0, .ref a0)] _ [.ref q6, .ref a0] rfl rfl rfl rfl ?_
  refine v_putF (ws2 := [(a0, .inr (9, [.ref q1, .ref q2, .ref q3, .int 0, .ref q4, .int 0, .ref q5, .int 0, .int (-4 : Int32), .int (-4 : Int32), .int (-4 : Int32), .int 0, .ref q6, .int 0, .null, .null, .int 0])), (q1, .inl (G.2.1, 85, .inl (fun _ => 0))), (q2, .inl (G.2.1, 85, .inl (fun _ => 0))), (q3, .inl (G.2.1, 340, .inl (fun _ => 0))), (q4, .inl (G.2.1, 85, .inl (fun _ => 0))), (q5, .inl (G.2.1, 60, .inl (fun _ => 0))), (q6, .inl (G.2.1, 124, .inl (fun _ => 0)))]) (pc2 := 71) S (show meth.name = "<init>" from hname) gf_X9_35 pf_X9_12 rfl 0 rfl rfl rfl (Nat.le_of_ble_eq_true rfl) rfl dX9_init_68 rfl ?_
  refine v_aload_n (pc2 := 72) S 0 dX9_init_71 rfl rfl rfl ?_
  refine v_sipush (v := 6144) (pc2 := 75) S dX9_init_72 (by decide) rfl ?_
  refine v_newa (pc2 := 77) (N := 6144) S u_130 (by decide) (by decide) (Nat.le_of_ble_eq_true rfl) (Nat.le_of_ble_eq_true rfl) (Nat.le_of_ble_eq_true rfl) dX9_init_75 rfl (fun q7 => ?_)
  refine v_to ([(a0, .inr (9, [.ref q1, .ref q2, .ref q3, .int 0, .ref q4, .int 0, .ref q5, .int 0, .int (-4 : Int32), .int (-4 : Int32), .int (-4 : Int32), .int 0, .ref q6, .int 0, .null, .null, .int 0])), (q1, .inl (G.2.1, 85, .inl (fun _ => 0))), (q2, .inl (G.2.1, 85, .inl (fun _ => 0))), (q3, .inl (G.2.1, 340, .inl (fun _ => 0))), (q4, .inl (G.2.1, 85, .inl (fun _ => 0))), (q5, .inl (G.2.1, 60, .inl (fun _ => 0))), (q6, .inl (G.2.1, 124, .inl (fun _ => 0))), (q7, .inl (G.2.1, 6144, .inl (fun _ => 0)))]) 77 [(0, .ref a0)] _ [.ref q7, .ref a0] rfl rfl rfl rfl ?_
  refine v_putF (ws2 := [(a0, .inr (9, [.ref q1, .ref q2, .ref q3, .int 0, .ref q4, .int 0, .ref q5, .int 0, .int (-4 : Int32), .int (-4 : Int32), .int (-4 : Int32), .int 0, .ref q6, .int 0, .ref q7, .null, .int 0])), (q1, .inl (G.2.1, 85, .inl (fun _ => 0))), (q2, .inl (G.2.1, 85, .inl (fun _ => 0))), (q3, .inl (G.2.1, 340, .inl (fun _ => 0))), (q4, .inl (G.2.1, 85, .inl (fun _ => 0))), (q5, .inl (G.2.1, 60, .inl (fun _ => 0))), (q6, .inl (G.2.1, 124, .inl (fun _ => 0))), (q7, .inl (G.2.1, 6144, .inl (fun _ => 0)))]) (pc2 := 80) S (show meth.name = "<init>" from hname) gf_X9_38 pf_X9_14 rfl 0 rfl rfl rfl (Nat.le_of_ble_eq_true rfl) rfl dX9_init_77 rfl ?_
  refine v_aload_n (pc2 := 81) S 0 dX9_init_80 rfl rfl rfl ?_
  refine v_sipush (v := 6144) (pc2 := 84) S dX9_init_81 (by decide) rfl ?_
  refine v_newa (pc2 := 86) (N := 6144) S u_130 (by decide) (by decide) (Nat.le_of_ble_eq_true rfl) (Nat.le_of_ble_eq_true rfl) (Nat.le_of_ble_eq_true rfl) dX9_init_84 rfl (fun q8 => ?_)
  refine v_to ([(a0, .inr (9, [.ref q1, .ref q2, .ref q3, .int 0, .ref q4, .int 0, .ref q5, .int 0, .int (-4 : Int32), .int (-4 : Int32), .int (-4 : Int32), .int 0, .ref q6, .int 0, .ref q7, .null, .int 0])), (q1, .inl (G.2.1, 85, .inl (fun _ => 0))), (q2, .inl (G.2.1, 85, .inl (fun _ => 0))), (q3, .inl (G.2.1, 340, .inl (fun _ => 0))), (q4, .inl (G.2.1, 85, .inl (fun _ => 0))), (q5, .inl (G.2.1, 60, .inl (fun _ => 0))), (q6, .inl (G.2.1, 124, .inl (fun _ => 0))), (q7, .inl (G.2.1, 6144, .inl (fun _ => 0))), (q8, .inl (G.2.1, 6144, .inl (fun _ => 0)))]) 86 [(0, .ref a0)] _ [.ref q8, .ref a0] rfl rfl rfl rfl ?_
  refine v_putF (ws2 := [(a0, .inr (9, [.ref q1, .ref q2, .ref q3, .int 0, .ref q4, .int 0, .ref q5, .int 0, .int (-4 : Int32), .int (-4 : Int32), .int (-4 : Int32), .int 0, .ref q6, .int 0, .ref q7, .ref q8, .int 0])), (q1, .inl (G.2.1, 85, .inl (fun _ => 0))), (q2, .inl (G.2.1, 85, .inl (fun _ => 0))), (q3, .inl (G.2.1, 340, .inl (fun _ => 0))), (q4, .inl (G.2.1, 85, .inl (fun _ => 0))), (q5, .inl (G.2.1, 60, .inl (fun _ => 0))), (q6, .inl (G.2.1, 124, .inl (fun _ => 0))), (q7, .inl (G.2.1, 6144, .inl (fun _ => 0))), (q8, .inl (G.2.1, 6144, .inl (fun _ => 0)))]) (pc2 := 89) S (show meth.name = "<init>" from hname) gf_X9_41 pf_X9_15 rfl 0 rfl rfl rfl (Nat.le_of_ble_eq_true rfl) rfl dX9_init_86 rfl ?_
  refine v_to (wMod G (a0, q1, q2, q3, q4, q5, q6, q7, q8) (fun _ => 0) (fun _ => 0) (fun _ => 0) 0 (fun _ => 0) 0 (fun _ => 0) 0 (-4 : Int32) (-4 : Int32) (-4 : Int32) 0 (fun _ => 0) 0 (fun _ => 0) (fun _ => 0) 0) 89 [(0, .ref (((a0, q1, q2, q3, q4, q5, q6, q7, q8)).1))] _ [] rfl rfl rfl rfl ?_
  refine v_aload_n (pc2 := 90) S 0 dX9_init_89 rfl rfl rfl ?_
  refine v_get (v := .ref (((a0, q1, q2, q3, q4, q5, q6, q7, q8)).2.1)) (pc2 := 93) S gf_X9_7 0 rfl rfl dX9_init_90 rfl ?_
  refine v_iconst (v := 0) (pc2 := 94) S dX9_init_93 (by decide) rfl ?_
  refine v_iconst (v := 3) (pc2 := 95) S dX9_init_94 (by decide) rfl ?_
  obtain ⟨h9, hw⟩ := hw
  obtain ⟨g10, eg10⟩ : ∃ y : Nat → Int32, y = upd (fun _ => 0) (0 : Int32).toNatClampNeg (3 : Int32) := ⟨_, rfl⟩
  have hw := hw g10 eg10
  refine v_iast (ws2 := wMod G (a0, q1, q2, q3, q4, q5, q6, q7, q8) g10 (fun _ => 0) (fun _ => 0) 0 (fun _ => 0) 0 (fun _ => 0) 0 (-4 : Int32) (-4 : Int32) (-4 : Int32) 0 (fun _ => 0) 0 (fun _ => 0) (fun _ => 0) 0) (pc2 := 96) S 1 rfl h9 (by rw [eg10] <;> rfl) dX9_init_95 rfl ?_
  refine v_iconst (v := 0) (pc2 := 97) S dX9_init_96 (by decide) rfl ?_
  refine v_istore_n (lv2 := [(0, .ref (((a0, q1, q2, q3, q4, q5, q6, q7, q8)).1)), (1, .int (0 : Int32))]) (pc2 := 98) S dX9_init_97 rfl (by decide) [1, 0] rfl rfl ?_
  obtain ⟨kk, hw⟩ := hw
  exact L98 q1 q2 q3 q4 q5 q6 q7 q8 kk (0 : Int32) (g10, (fun _ => 0), (fun _ => 0), 0, (fun _ => 0), 0, (fun _ => 0), 0, (-4 : Int32), (-4 : Int32), (-4 : Int32), 0, (fun _ => 0), 0, (fun _ => 0), (fun _ => 0), 0) hw
set_option maxHeartbeats 4000000 in
set_option maxRecDepth 100000 in
theorem c_X9_in (l : Launch) (G : GG) (i0 : Int32) (i1 : Int32) (i2 : Int32) (Q : Int32 → Prop) (hw : wp_X9_in i0 i1 i2 Q) : Con l G yX9_in cX9_in 3 (some .boolean) { frames := 0, cells := 0, slots := 0, locals := 0 } [.int i0, .int i1, .int i2] ([]) (PB (fun _ : Unit => []) (fun r _ => Q r)) 0 0 := by
  refine con_of RX9 rfl (by decide) [(0, .int i0), (1, .int i1), (2, .int i2)] rfl (Nat.le_of_ble_eq_true rfl) ?_
  intro p e s m args below meth c S hname
  refine v_iload_n (pc2 := 1) S 0 dX9_in_0 rfl rfl rfl ?_
  refine v_iload_n (pc2 := 2) S 1 dX9_in_1 rfl rfl rfl ?_
  refine v_icmp_lt (pc2 := 5) (tgt := 14) S dX9_in_2 (by decide) rfl (fun c1 => ?_) (fun c1 => ?_)
  · have hw := hw.1 c1
    refine v_iconst (v := 0) (pc2 := 15) S dX9_in_14 (by decide) rfl ?_
    exact v_zret S (by decide) ⟨(0 : Int32), (), rfl, (by decide), rfl, hw⟩ dX9_in_15
  · have hw := hw.2 c1
    refine v_iload_n (pc2 := 6) S 0 dX9_in_5 rfl rfl rfl ?_
    refine v_iload_n (pc2 := 7) S 2 dX9_in_6 rfl rfl rfl ?_
    refine v_icmp_gt (pc2 := 10) (tgt := 14) S dX9_in_7 (by decide) rfl (fun c2 => ?_) (fun c2 => ?_)
    · have hw := hw.1 c2
      refine v_iconst (v := 0) (pc2 := 15) S dX9_in_14 (by decide) rfl ?_
      exact v_zret S (by decide) ⟨(0 : Int32), (), rfl, (by decide), rfl, hw⟩ dX9_in_15
    · have hw := hw.2 c2
      refine v_iconst (v := 1) (pc2 := 11) S dX9_in_10 (by decide) rfl ?_
      refine v_goto (tgt := 15) S dX9_in_11 (by decide) ?_
      exact v_zret S (by decide) ⟨(1 : Int32), (), rfl, (by decide), rfl, hw⟩ dX9_in_15
set_option maxHeartbeats 4000000 in
set_option maxRecDepth 100000 in
theorem c_X9_isDoor (l : Launch) (G : GG) (i0 : Int32) (Q : Int32 → Prop) (hw : wp_X9_isDoor i0 Q) : Con l G yX9_isDoor cX9_isDoor 1 (some .boolean) { frames := 1, cells := 0, slots := 0, locals := 22 } [.int i0] ([]) (PB (fun _ : Unit => []) (fun r _ => Q r)) 0 0 := by
  refine con_of RX9 rfl (by decide) [(0, .int i0)] rfl (Nat.le_of_ble_eq_true rfl) ?_
  intro p e s m args below meth c S hname
  refine v_iload_n (pc2 := 1) S 0 dX9_isDoor_0 rfl rfl rfl ?_
  refine v_iconst (v := 0) (pc2 := 2) S dX9_isDoor_1 (by decide) rfl ?_
  refine v_bipush (v := 9) (pc2 := 4) S dX9_isDoor_2 (by decide) rfl ?_
  refine v_callS (pc2 := 7) (As := [.int i0, .int (0 : Int32), .int (9 : Int32)]) (rest := []) S (c_X9_in l G i0 (0 : Int32) (9 : Int32) _ hw) mf_X9_in u_861 u_862 rfl rfl ⟨rfl, rfl⟩ ⟨Nat.le_of_ble_eq_true rfl, Nat.le_of_ble_eq_true rfl⟩ ⟨Nat.le_of_ble_eq_true rfl, Nat.le_of_ble_eq_true rfl⟩ (Nat.le_of_ble_eq_true rfl) dX9_isDoor_4 (frM [] [] _) rfl (pb (fun r1 u2 br1 hw => ?_))
  refine v_to ([]) 7 [(0, .int i0)] _ [.int r1] rfl rfl rfl rfl ?_
  exact v_zret S br1 ⟨r1, (), rfl, br1, rfl, hw⟩ dX9_isDoor_7
set_option maxHeartbeats 4000000 in
set_option maxRecDepth 100000 in
theorem c_X9_isHall (l : Launch) (G : GG) (i0 : Int32) (Q : Int32 → Prop) (hw : wp_X9_isHall i0 Q) : Con l G yX9_isHall cX9_isHall 1 (some .boolean) { frames := 1, cells := 0, slots := 0, locals := 22 } [.int i0] ([]) (PB (fun _ : Unit => []) (fun r _ => Q r)) 0 0 := by
  refine con_of RX9 rfl (by decide) [(0, .int i0)] rfl (Nat.le_of_ble_eq_true rfl) ?_
  intro p e s m args below meth c S hname
  refine v_iload_n (pc2 := 1) S 0 dX9_isHall_0 rfl rfl rfl ?_
  refine v_iconst (v := 0) (pc2 := 2) S dX9_isHall_1 (by decide) rfl ?_
  refine v_iconst (v := 5) (pc2 := 3) S dX9_isHall_2 (by decide) rfl ?_
  refine v_callS (pc2 := 6) (As := [.int i0, .int (0 : Int32), .int (5 : Int32)]) (rest := []) S (c_X9_in l G i0 (0 : Int32) (5 : Int32) _ hw) mf_X9_in u_861 u_862 rfl rfl ⟨rfl, rfl⟩ ⟨Nat.le_of_ble_eq_true rfl, Nat.le_of_ble_eq_true rfl⟩ ⟨Nat.le_of_ble_eq_true rfl, Nat.le_of_ble_eq_true rfl⟩ (Nat.le_of_ble_eq_true rfl) dX9_isHall_3 (frM [] [] _) rfl (pb (fun r1 u2 br1 hw => ?_))
  refine v_to ([]) 6 [(0, .int i0)] _ [.int r1] rfl rfl rfl rfl ?_
  exact v_zret S br1 ⟨r1, (), rfl, br1, rfl, hw⟩ dX9_isHall_6
set_option maxHeartbeats 4000000 in
set_option maxRecDepth 100000 in
theorem c_X9_isGuest (l : Launch) (G : GG) (i0 : Int32) (Q : Int32 → Prop) (hw : wp_X9_isGuest i0 Q) : Con l G yX9_isGuest cX9_isGuest 1 (some .boolean) { frames := 1, cells := 0, slots := 0, locals := 22 } [.int i0] ([]) (PB (fun _ : Unit => []) (fun r _ => Q r)) 0 0 := by
  refine con_of RX9 rfl (by decide) [(0, .int i0)] rfl (Nat.le_of_ble_eq_true rfl) ?_
  intro p e s m args below meth c S hname
  refine v_iload_n (pc2 := 1) S 0 dX9_isGuest_0 rfl rfl rfl ?_
  refine v_iconst (v := 0) (pc2 := 2) S dX9_isGuest_1 (by decide) rfl ?_
  refine v_iconst (v := 2) (pc2 := 3) S dX9_isGuest_2 (by decide) rfl ?_
  refine v_callS (pc2 := 6) (As := [.int i0, .int (0 : Int32), .int (2 : Int32)]) (rest := []) S (c_X9_in l G i0 (0 : Int32) (2 : Int32) _ hw) mf_X9_in u_861 u_862 rfl rfl ⟨rfl, rfl⟩ ⟨Nat.le_of_ble_eq_true rfl, Nat.le_of_ble_eq_true rfl⟩ ⟨Nat.le_of_ble_eq_true rfl, Nat.le_of_ble_eq_true rfl⟩ (Nat.le_of_ble_eq_true rfl) dX9_isGuest_3 (frM [] [] _) rfl (pb (fun r1 u2 br1 hw => ?_))
  refine v_to ([]) 6 [(0, .int i0)] _ [.int r1] rfl rfl rfl rfl ?_
  exact v_zret S br1 ⟨r1, (), rfl, br1, rfl, hw⟩ dX9_isGuest_6
set_option maxHeartbeats 4000000 in
set_option maxRecDepth 100000 in
theorem c_X9_of (l : Launch) (G : GG) (a0 : ModA) (v0 : ModV) (i0 : Int32) (i1 : Int32) (Q : Int32 → Prop) (hw : wp_X9_of v0 i0 i1 Q) : Con l G yX9_of cX9_of 3 (some .int) { frames := 0, cells := 0, slots := 0, locals := 0 } [.ref a0.1, .int i0, .int i1] (wMod G a0 v0.1 v0.2.1 v0.2.2.1 v0.2.2.2.1 v0.2.2.2.2.1 v0.2.2.2.2.2.1 v0.2.2.2.2.2.2.1 v0.2.2.2.2.2.2.2.1 v0.2.2.2.2.2.2.2.2.1 v0.2.2.2.2.2.2.2.2.2.1 v0.2.2.2.2.2.2.2.2.2.2.1 v0.2.2.2.2.2.2.2.2.2.2.2.1 v0.2.2.2.2.2.2.2.2.2.2.2.2.1 v0.2.2.2.2.2.2.2.2.2.2.2.2.2.1 v0.2.2.2.2.2.2.2.2.2.2.2.2.2.2.1 v0.2.2.2.2.2.2.2.2.2.2.2.2.2.2.2.1 v0.2.2.2.2.2.2.2.2.2.2.2.2.2.2.2.2) (PI (fun _ : Unit => wMod G a0 v0.1 v0.2.1 v0.2.2.1 v0.2.2.2.1 v0.2.2.2.2.1 v0.2.2.2.2.2.1 v0.2.2.2.2.2.2.1 v0.2.2.2.2.2.2.2.1 v0.2.2.2.2.2.2.2.2.1 v0.2.2.2.2.2.2.2.2.2.1 v0.2.2.2.2.2.2.2.2.2.2.1 v0.2.2.2.2.2.2.2.2.2.2.2.1 v0.2.2.2.2.2.2.2.2.2.2.2.2.1 v0.2.2.2.2.2.2.2.2.2.2.2.2.2.1 v0.2.2.2.2.2.2.2.2.2.2.2.2.2.2.1 v0.2.2.2.2.2.2.2.2.2.2.2.2.2.2.2.1 v0.2.2.2.2.2.2.2.2.2.2.2.2.2.2.2.2) (fun r _ => Q r)) 0 0 := by
  refine con_of RX9 rfl (by decide) [(0, .ref a0.1), (1, .int i0), (2, .int i1)] rfl (Nat.le_of_ble_eq_true rfl) ?_
  intro p e s m args below meth c S hname
  refine v_aload_n (pc2 := 1) S 0 dX9_of_0 rfl rfl rfl ?_
  refine v_get (v := .ref a0.2.1) (pc2 := 4) S gf_X9_7 0 rfl rfl dX9_of_1 rfl ?_
  refine v_bipush (v := 6) (pc2 := 6) S dX9_of_4 (by decide) rfl ?_
  refine v_bipush (v := 7) (pc2 := 8) S dX9_of_6 (by decide) rfl ?_
  refine v_iload_n (pc2 := 9) S 1 dX9_of_8 rfl rfl rfl ?_
  refine v_imul (pc2 := 10) S dX9_of_9 rfl ?_
  refine v_iadd (pc2 := 11) S dX9_of_10 rfl ?_
  refine v_iload_n (pc2 := 12) S 2 dX9_of_11 rfl rfl rfl ?_
  refine v_iadd (pc2 := 13) S dX9_of_12 rfl ?_
  obtain ⟨h1, hw⟩ := hw
  refine v_iald (pc2 := 14) S 1 rfl h1 dX9_of_13 rfl ?_
  exact v_iret S ⟨v0.1 (((6 : Int32) + ((7 : Int32) * i0)) + i1).toNatClampNeg, (), rfl, rfl, hw⟩ dX9_of_14
set_option maxHeartbeats 4000000 in
set_option maxRecDepth 100000 in
theorem c_X9_ofGuest (l : Launch) (G : GG) (a0 : ModA) (v0 : ModV) (i0 : Int32) (i1 : Int32) (Q : Int32 → Prop) (hw : wp_X9_ofGuest v0 i0 i1 Q) : Con l G yX9_ofGuest cX9_ofGuest 3 (some .int) { frames := 0, cells := 0, slots := 0, locals := 0 } [.ref a0.1, .int i0, .int i1] (wMod G a0 v0.1 v0.2.1 v0.2.2.1 v0.2.2.2.1 v0.2.2.2.2.1 v0.2.2.2.2.2.1 v0.2.2.2.2.2.2.1 v0.2.2.2.2.2.2.2.1 v0.2.2.2.2.2.2.2.2.1 v0.2.2.2.2.2.2.2.2.2.1 v0.2.2.2.2.2.2.2.2.2.2.1 v0.2.2.2.2.2.2.2.2.2.2.2.1 v0.2.2.2.2.2.2.2.2.2.2.2.2.1 v0.2.2.2.2.2.2.2.2.2.2.2.2.2.1 v0.2.2.2.2.2.2.2.2.2.2.2.2.2.2.1 v0.2.2.2.2.2.2.2.2.2.2.2.2.2.2.2.1 v0.2.2.2.2.2.2.2.2.2.2.2.2.2.2.2.2) (PI (fun _ : Unit => wMod G a0 v0.1 v0.2.1 v0.2.2.1 v0.2.2.2.1 v0.2.2.2.2.1 v0.2.2.2.2.2.1 v0.2.2.2.2.2.2.1 v0.2.2.2.2.2.2.2.1 v0.2.2.2.2.2.2.2.2.1 v0.2.2.2.2.2.2.2.2.2.1 v0.2.2.2.2.2.2.2.2.2.2.1 v0.2.2.2.2.2.2.2.2.2.2.2.1 v0.2.2.2.2.2.2.2.2.2.2.2.2.1 v0.2.2.2.2.2.2.2.2.2.2.2.2.2.1 v0.2.2.2.2.2.2.2.2.2.2.2.2.2.2.1 v0.2.2.2.2.2.2.2.2.2.2.2.2.2.2.2.1 v0.2.2.2.2.2.2.2.2.2.2.2.2.2.2.2.2) (fun r _ => Q r)) 0 0 := by
  refine con_of RX9 rfl (by decide) [(0, .ref a0.1), (1, .int i0), (2, .int i1)] rfl (Nat.le_of_ble_eq_true rfl) ?_
  intro p e s m args below meth c S hname
  refine v_aload_n (pc2 := 1) S 0 dX9_ofGuest_0 rfl rfl rfl ?_
  refine v_get (v := .ref a0.2.1) (pc2 := 4) S gf_X9_7 0 rfl rfl dX9_ofGuest_1 rfl ?_
  refine v_bipush (v := 76) (pc2 := 6) S dX9_ofGuest_4 (by decide) rfl ?_
  refine v_iconst (v := 3) (pc2 := 7) S dX9_ofGuest_6 (by decide) rfl ?_
  refine v_iload_n (pc2 := 8) S 1 dX9_ofGuest_7 rfl rfl rfl ?_
  refine v_imul (pc2 := 9) S dX9_ofGuest_8 rfl ?_
  refine v_iadd (pc2 := 10) S dX9_ofGuest_9 rfl ?_
  refine v_iload_n (pc2 := 11) S 2 dX9_ofGuest_10 rfl rfl rfl ?_
  refine v_iadd (pc2 := 12) S dX9_ofGuest_11 rfl ?_
  obtain ⟨h1, hw⟩ := hw
  refine v_iald (pc2 := 13) S 1 rfl h1 dX9_ofGuest_12 rfl ?_
  exact v_iret S ⟨v0.1 (((76 : Int32) + ((3 : Int32) * i0)) + i1).toNatClampNeg, (), rfl, rfl, hw⟩ dX9_ofGuest_13
set_option maxHeartbeats 4000000 in
set_option maxRecDepth 100000 in
theorem c_X9_isOpen (l : Launch) (G : GG) (a0 : ModA) (v0 : ModV) (i0 : Int32) (Q : Int32 → Prop) (hw : wp_X9_isOpen v0 i0 Q) : Con l G yX9_isOpen cX9_isOpen 2 (some .boolean) { frames := 1, cells := 0, slots := 0, locals := 22 } [.ref a0.1, .int i0] (wMod G a0 v0.1 v0.2.1 v0.2.2.1 v0.2.2.2.1 v0.2.2.2.2.1 v0.2.2.2.2.2.1 v0.2.2.2.2.2.2.1 v0.2.2.2.2.2.2.2.1 v0.2.2.2.2.2.2.2.2.1 v0.2.2.2.2.2.2.2.2.2.1 v0.2.2.2.2.2.2.2.2.2.2.1 v0.2.2.2.2.2.2.2.2.2.2.2.1 v0.2.2.2.2.2.2.2.2.2.2.2.2.1 v0.2.2.2.2.2.2.2.2.2.2.2.2.2.1 v0.2.2.2.2.2.2.2.2.2.2.2.2.2.2.1 v0.2.2.2.2.2.2.2.2.2.2.2.2.2.2.2.1 v0.2.2.2.2.2.2.2.2.2.2.2.2.2.2.2.2) (PB (fun _ : Unit => wMod G a0 v0.1 v0.2.1 v0.2.2.1 v0.2.2.2.1 v0.2.2.2.2.1 v0.2.2.2.2.2.1 v0.2.2.2.2.2.2.1 v0.2.2.2.2.2.2.2.1 v0.2.2.2.2.2.2.2.2.1 v0.2.2.2.2.2.2.2.2.2.1 v0.2.2.2.2.2.2.2.2.2.2.1 v0.2.2.2.2.2.2.2.2.2.2.2.1 v0.2.2.2.2.2.2.2.2.2.2.2.2.1 v0.2.2.2.2.2.2.2.2.2.2.2.2.2.1 v0.2.2.2.2.2.2.2.2.2.2.2.2.2.2.1 v0.2.2.2.2.2.2.2.2.2.2.2.2.2.2.2.1 v0.2.2.2.2.2.2.2.2.2.2.2.2.2.2.2.2) (fun r _ => Q r)) 0 0 := by
  refine con_of RX9 rfl (by decide) [(0, .ref a0.1), (1, .int i0)] rfl (Nat.le_of_ble_eq_true rfl) ?_
  intro p e s m args below meth c S hname
  refine v_aload_n (pc2 := 1) S 0 dX9_isOpen_0 rfl rfl rfl ?_
  refine v_iload_n (pc2 := 2) S 1 dX9_isOpen_1 rfl rfl rfl ?_
  refine v_iconst (v := 0) (pc2 := 3) S dX9_isOpen_2 (by decide) rfl ?_
  refine v_callV (pc2 := 6) (As := [.int i0, .int (0 : Int32)]) (rest := []) S (c_X9_of l G a0 v0 i0 (0 : Int32) _ hw) mf_X9_of u_842 u_844 u_21 0 9 rfl rfl rfl rfl ⟨rfl, rfl⟩ ⟨Nat.le_of_ble_eq_true rfl, Nat.le_of_ble_eq_true rfl⟩ ⟨Nat.le_of_ble_eq_true rfl, Nat.le_of_ble_eq_true rfl⟩ (Nat.le_of_ble_eq_true rfl) dX9_isOpen_3 (frW _) rfl (pi (fun r1 u2 hw => ?_))
  refine v_to (wMod G a0 v0.1 v0.2.1 v0.2.2.1 v0.2.2.2.1 v0.2.2.2.2.1 v0.2.2.2.2.2.1 v0.2.2.2.2.2.2.1 v0.2.2.2.2.2.2.2.1 v0.2.2.2.2.2.2.2.2.1 v0.2.2.2.2.2.2.2.2.2.1 v0.2.2.2.2.2.2.2.2.2.2.1 v0.2.2.2.2.2.2.2.2.2.2.2.1 v0.2.2.2.2.2.2.2.2.2.2.2.2.1 v0.2.2.2.2.2.2.2.2.2.2.2.2.2.1 v0.2.2.2.2.2.2.2.2.2.2.2.2.2.2.1 v0.2.2.2.2.2.2.2.2.2.2.2.2.2.2.2.1 v0.2.2.2.2.2.2.2.2.2.2.2.2.2.2.2.2) 6 [(0, .ref a0.1), (1, .int i0)] _ [.int r1] rfl rfl rfl rfl ?_
  refine v_iconst (v := 1) (pc2 := 7) S dX9_isOpen_6 (by decide) rfl ?_
  refine v_icmp_ne (pc2 := 10) (tgt := 14) S dX9_isOpen_7 (by decide) rfl (fun c3 => ?_) (fun c3 => ?_)
  · have hw := hw.1 c3
    refine v_iconst (v := 0) (pc2 := 15) S dX9_isOpen_14 (by decide) rfl ?_
    exact v_zret S (by decide) ⟨(0 : Int32), (), rfl, (by decide), rfl, hw⟩ dX9_isOpen_15
  · have hw := hw.2 c3
    refine v_iconst (v := 1) (pc2 := 11) S dX9_isOpen_10 (by decide) rfl ?_
    refine v_goto (tgt := 15) S dX9_isOpen_11 (by decide) ?_
    exact v_zret S (by decide) ⟨(1 : Int32), (), rfl, (by decide), rfl, hw⟩ dX9_isOpen_15
set_option maxHeartbeats 4000000 in
set_option maxRecDepth 100000 in
theorem c_X9_joins (l : Launch) (G : GG) (a0 : ModA) (v0 : ModV) (i0 : Int32) (i1 : Int32) (Q : Int32 → Prop) (hw : wp_X9_joins v0 i0 i1 Q) : Con l G yX9_joins cX9_joins 3 (some .boolean) { frames := 1, cells := 0, slots := 0, locals := 22 } [.ref a0.1, .int i0, .int i1] (wMod G a0 v0.1 v0.2.1 v0.2.2.1 v0.2.2.2.1 v0.2.2.2.2.1 v0.2.2.2.2.2.1 v0.2.2.2.2.2.2.1 v0.2.2.2.2.2.2.2.1 v0.2.2.2.2.2.2.2.2.1 v0.2.2.2.2.2.2.2.2.2.1 v0.2.2.2.2.2.2.2.2.2.2.1 v0.2.2.2.2.2.2.2.2.2.2.2.1 v0.2.2.2.2.2.2.2.2.2.2.2.2.1 v0.2.2.2.2.2.2.2.2.2.2.2.2.2.1 v0.2.2.2.2.2.2.2.2.2.2.2.2.2.2.1 v0.2.2.2.2.2.2.2.2.2.2.2.2.2.2.2.1 v0.2.2.2.2.2.2.2.2.2.2.2.2.2.2.2.2) (PB (fun _ : Unit => wMod G a0 v0.1 v0.2.1 v0.2.2.1 v0.2.2.2.1 v0.2.2.2.2.1 v0.2.2.2.2.2.1 v0.2.2.2.2.2.2.1 v0.2.2.2.2.2.2.2.1 v0.2.2.2.2.2.2.2.2.1 v0.2.2.2.2.2.2.2.2.2.1 v0.2.2.2.2.2.2.2.2.2.2.1 v0.2.2.2.2.2.2.2.2.2.2.2.1 v0.2.2.2.2.2.2.2.2.2.2.2.2.1 v0.2.2.2.2.2.2.2.2.2.2.2.2.2.1 v0.2.2.2.2.2.2.2.2.2.2.2.2.2.2.1 v0.2.2.2.2.2.2.2.2.2.2.2.2.2.2.2.1 v0.2.2.2.2.2.2.2.2.2.2.2.2.2.2.2.2) (fun r _ => Q r)) 0 0 := by
  refine con_of RX9 rfl (by decide) [(0, .ref a0.1), (1, .int i0), (2, .int i1)] rfl (Nat.le_of_ble_eq_true rfl) ?_
  intro p e s m args below meth c S hname
  refine v_aload_n (pc2 := 1) S 0 dX9_joins_0 rfl rfl rfl ?_
  refine v_iload_n (pc2 := 2) S 1 dX9_joins_1 rfl rfl rfl ?_
  refine v_iconst (v := 1) (pc2 := 3) S dX9_joins_2 (by decide) rfl ?_
  refine v_callV (pc2 := 6) (As := [.int i0, .int (1 : Int32)]) (rest := []) S (c_X9_of l G a0 v0 i0 (1 : Int32) _ hw) mf_X9_of u_842 u_844 u_21 0 9 rfl rfl rfl rfl ⟨rfl, rfl⟩ ⟨Nat.le_of_ble_eq_true rfl, Nat.le_of_ble_eq_true rfl⟩ ⟨Nat.le_of_ble_eq_true rfl, Nat.le_of_ble_eq_true rfl⟩ (Nat.le_of_ble_eq_true rfl) dX9_joins_3 (frW _) rfl (pi (fun r1 u2 hw => ?_))
  refine v_to (wMod G a0 v0.1 v0.2.1 v0.2.2.1 v0.2.2.2.1 v0.2.2.2.2.1 v0.2.2.2.2.2.1 v0.2.2.2.2.2.2.1 v0.2.2.2.2.2.2.2.1 v0.2.2.2.2.2.2.2.2.1 v0.2.2.2.2.2.2.2.2.2.1 v0.2.2.2.2.2.2.2.2.2.2.1 v0.2.2.2.2.2.2.2.2.2.2.2.1 v0.2.2.2.2.2.2.2.2.2.2.2.2.1 v0.2.2.2.2.2.2.2.2.2.2.2.2.2.1 v0.2.2.2.2.2.2.2.2.2.2.2.2.2.2.1 v0.2.2.2.2.2.2.2.2.2.2.2.2.2.2.2.1 v0.2.2.2.2.2.2.2.2.2.2.2.2.2.2.2.2) 6 [(0, .ref a0.1), (1, .int i0), (2, .int i1)] _ [.int r1] rfl rfl rfl rfl ?_
  refine v_iload_n (pc2 := 7) S 2 dX9_joins_6 rfl rfl rfl ?_
  refine v_icmp_eq (pc2 := 10) (tgt := 20) S dX9_joins_7 (by decide) rfl (fun c3 => ?_) (fun c3 => ?_)
  · have hw := hw.1 c3
    refine v_iconst (v := 1) (pc2 := 21) S dX9_joins_20 (by decide) rfl ?_
    refine v_goto (tgt := 25) S dX9_joins_21 (by decide) ?_
    exact v_zret S (by decide) ⟨(1 : Int32), (), rfl, (by decide), rfl, hw⟩ dX9_joins_25
  · have hw := hw.2 c3
    refine v_aload_n (pc2 := 11) S 0 dX9_joins_10 rfl rfl rfl ?_
    refine v_iload_n (pc2 := 12) S 1 dX9_joins_11 rfl rfl rfl ?_
    refine v_iconst (v := 2) (pc2 := 13) S dX9_joins_12 (by decide) rfl ?_
    refine v_callV (pc2 := 16) (As := [.int i0, .int (2 : Int32)]) (rest := []) S (c_X9_of l G a0 v0 i0 (2 : Int32) _ hw) mf_X9_of u_842 u_844 u_21 0 9 rfl rfl rfl rfl ⟨rfl, rfl⟩ ⟨Nat.le_of_ble_eq_true rfl, Nat.le_of_ble_eq_true rfl⟩ ⟨Nat.le_of_ble_eq_true rfl, Nat.le_of_ble_eq_true rfl⟩ (Nat.le_of_ble_eq_true rfl) dX9_joins_13 (frW _) rfl (pi (fun r4 u5 hw => ?_))
    refine v_to (wMod G a0 v0.1 v0.2.1 v0.2.2.1 v0.2.2.2.1 v0.2.2.2.2.1 v0.2.2.2.2.2.1 v0.2.2.2.2.2.2.1 v0.2.2.2.2.2.2.2.1 v0.2.2.2.2.2.2.2.2.1 v0.2.2.2.2.2.2.2.2.2.1 v0.2.2.2.2.2.2.2.2.2.2.1 v0.2.2.2.2.2.2.2.2.2.2.2.1 v0.2.2.2.2.2.2.2.2.2.2.2.2.1 v0.2.2.2.2.2.2.2.2.2.2.2.2.2.1 v0.2.2.2.2.2.2.2.2.2.2.2.2.2.2.1 v0.2.2.2.2.2.2.2.2.2.2.2.2.2.2.2.1 v0.2.2.2.2.2.2.2.2.2.2.2.2.2.2.2.2) 16 [(0, .ref a0.1), (1, .int i0), (2, .int i1)] _ [.int r4] rfl rfl rfl rfl ?_
    refine v_iload_n (pc2 := 17) S 2 dX9_joins_16 rfl rfl rfl ?_
    refine v_icmp_ne (pc2 := 20) (tgt := 24) S dX9_joins_17 (by decide) rfl (fun c6 => ?_) (fun c6 => ?_)
    · have hw := hw.1 c6
      refine v_iconst (v := 0) (pc2 := 25) S dX9_joins_24 (by decide) rfl ?_
      exact v_zret S (by decide) ⟨(0 : Int32), (), rfl, (by decide), rfl, hw⟩ dX9_joins_25
    · have hw := hw.2 c6
      refine v_iconst (v := 1) (pc2 := 21) S dX9_joins_20 (by decide) rfl ?_
      refine v_goto (tgt := 25) S dX9_joins_21 (by decide) ?_
      exact v_zret S (by decide) ⟨(1 : Int32), (), rfl, (by decide), rfl, hw⟩ dX9_joins_25
set_option maxHeartbeats 4000000 in
set_option maxRecDepth 100000 in
theorem c_X9_goesTo (l : Launch) (G : GG) (a0 : ModA) (v0 : ModV) (i0 : Int32) (i1 : Int32) (Q : Int32 → Prop) (hw : wp_X9_goesTo v0 i0 i1 Q) : Con l G yX9_goesTo cX9_goesTo 3 (some .boolean) { frames := 1, cells := 0, slots := 0, locals := 22 } [.ref a0.1, .int i0, .int i1] (wMod G a0 v0.1 v0.2.1 v0.2.2.1 v0.2.2.2.1 v0.2.2.2.2.1 v0.2.2.2.2.2.1 v0.2.2.2.2.2.2.1 v0.2.2.2.2.2.2.2.1 v0.2.2.2.2.2.2.2.2.1 v0.2.2.2.2.2.2.2.2.2.1 v0.2.2.2.2.2.2.2.2.2.2.1 v0.2.2.2.2.2.2.2.2.2.2.2.1 v0.2.2.2.2.2.2.2.2.2.2.2.2.1 v0.2.2.2.2.2.2.2.2.2.2.2.2.2.1 v0.2.2.2.2.2.2.2.2.2.2.2.2.2.2.1 v0.2.2.2.2.2.2.2.2.2.2.2.2.2.2.2.1 v0.2.2.2.2.2.2.2.2.2.2.2.2.2.2.2.2) (PB (fun _ : Unit => wMod G a0 v0.1 v0.2.1 v0.2.2.1 v0.2.2.2.1 v0.2.2.2.2.1 v0.2.2.2.2.2.1 v0.2.2.2.2.2.2.1 v0.2.2.2.2.2.2.2.1 v0.2.2.2.2.2.2.2.2.1 v0.2.2.2.2.2.2.2.2.2.1 v0.2.2.2.2.2.2.2.2.2.2.1 v0.2.2.2.2.2.2.2.2.2.2.2.1 v0.2.2.2.2.2.2.2.2.2.2.2.2.1 v0.2.2.2.2.2.2.2.2.2.2.2.2.2.1 v0.2.2.2.2.2.2.2.2.2.2.2.2.2.2.1 v0.2.2.2.2.2.2.2.2.2.2.2.2.2.2.2.1 v0.2.2.2.2.2.2.2.2.2.2.2.2.2.2.2.2) (fun r _ => Q r)) 0 0 := by
  refine con_of RX9 rfl (by decide) [(0, .ref a0.1), (1, .int i0), (2, .int i1)] rfl (Nat.le_of_ble_eq_true rfl) ?_
  intro p e s m args below meth c S hname
  refine v_aload_n (pc2 := 1) S 0 dX9_goesTo_0 rfl rfl rfl ?_
  refine v_iload_n (pc2 := 2) S 1 dX9_goesTo_1 rfl rfl rfl ?_
  refine v_iconst (v := 3) (pc2 := 3) S dX9_goesTo_2 (by decide) rfl ?_
  refine v_callV (pc2 := 6) (As := [.int i0, .int (3 : Int32)]) (rest := []) S (c_X9_of l G a0 v0 i0 (3 : Int32) _ hw) mf_X9_of u_842 u_844 u_21 0 9 rfl rfl rfl rfl ⟨rfl, rfl⟩ ⟨Nat.le_of_ble_eq_true rfl, Nat.le_of_ble_eq_true rfl⟩ ⟨Nat.le_of_ble_eq_true rfl, Nat.le_of_ble_eq_true rfl⟩ (Nat.le_of_ble_eq_true rfl) dX9_goesTo_3 (frW _) rfl (pi (fun r1 u2 hw => ?_))
  refine v_to (wMod G a0 v0.1 v0.2.1 v0.2.2.1 v0.2.2.2.1 v0.2.2.2.2.1 v0.2.2.2.2.2.1 v0.2.2.2.2.2.2.1 v0.2.2.2.2.2.2.2.1 v0.2.2.2.2.2.2.2.2.1 v0.2.2.2.2.2.2.2.2.2.1 v0.2.2.2.2.2.2.2.2.2.2.1 v0.2.2.2.2.2.2.2.2.2.2.2.1 v0.2.2.2.2.2.2.2.2.2.2.2.2.1 v0.2.2.2.2.2.2.2.2.2.2.2.2.2.1 v0.2.2.2.2.2.2.2.2.2.2.2.2.2.2.1 v0.2.2.2.2.2.2.2.2.2.2.2.2.2.2.2.1 v0.2.2.2.2.2.2.2.2.2.2.2.2.2.2.2.2) 6 [(0, .ref a0.1), (1, .int i0), (2, .int i1)] _ [.int r1] rfl rfl rfl rfl ?_
  refine v_iload_n (pc2 := 7) S 2 dX9_goesTo_6 rfl rfl rfl ?_
  refine v_icmp_eq (pc2 := 10) (tgt := 20) S dX9_goesTo_7 (by decide) rfl (fun c3 => ?_) (fun c3 => ?_)
  · have hw := hw.1 c3
    refine v_iconst (v := 1) (pc2 := 21) S dX9_goesTo_20 (by decide) rfl ?_
    refine v_goto (tgt := 25) S dX9_goesTo_21 (by decide) ?_
    exact v_zret S (by decide) ⟨(1 : Int32), (), rfl, (by decide), rfl, hw⟩ dX9_goesTo_25
  · have hw := hw.2 c3
    refine v_aload_n (pc2 := 11) S 0 dX9_goesTo_10 rfl rfl rfl ?_
    refine v_iload_n (pc2 := 12) S 1 dX9_goesTo_11 rfl rfl rfl ?_
    refine v_iconst (v := 4) (pc2 := 13) S dX9_goesTo_12 (by decide) rfl ?_
    refine v_callV (pc2 := 16) (As := [.int i0, .int (4 : Int32)]) (rest := []) S (c_X9_of l G a0 v0 i0 (4 : Int32) _ hw) mf_X9_of u_842 u_844 u_21 0 9 rfl rfl rfl rfl ⟨rfl, rfl⟩ ⟨Nat.le_of_ble_eq_true rfl, Nat.le_of_ble_eq_true rfl⟩ ⟨Nat.le_of_ble_eq_true rfl, Nat.le_of_ble_eq_true rfl⟩ (Nat.le_of_ble_eq_true rfl) dX9_goesTo_13 (frW _) rfl (pi (fun r4 u5 hw => ?_))
    refine v_to (wMod G a0 v0.1 v0.2.1 v0.2.2.1 v0.2.2.2.1 v0.2.2.2.2.1 v0.2.2.2.2.2.1 v0.2.2.2.2.2.2.1 v0.2.2.2.2.2.2.2.1 v0.2.2.2.2.2.2.2.2.1 v0.2.2.2.2.2.2.2.2.2.1 v0.2.2.2.2.2.2.2.2.2.2.1 v0.2.2.2.2.2.2.2.2.2.2.2.1 v0.2.2.2.2.2.2.2.2.2.2.2.2.1 v0.2.2.2.2.2.2.2.2.2.2.2.2.2.1 v0.2.2.2.2.2.2.2.2.2.2.2.2.2.2.1 v0.2.2.2.2.2.2.2.2.2.2.2.2.2.2.2.1 v0.2.2.2.2.2.2.2.2.2.2.2.2.2.2.2.2) 16 [(0, .ref a0.1), (1, .int i0), (2, .int i1)] _ [.int r4] rfl rfl rfl rfl ?_
    refine v_iload_n (pc2 := 17) S 2 dX9_goesTo_16 rfl rfl rfl ?_
    refine v_icmp_ne (pc2 := 20) (tgt := 24) S dX9_goesTo_17 (by decide) rfl (fun c6 => ?_) (fun c6 => ?_)
    · have hw := hw.1 c6
      refine v_iconst (v := 0) (pc2 := 25) S dX9_goesTo_24 (by decide) rfl ?_
      exact v_zret S (by decide) ⟨(0 : Int32), (), rfl, (by decide), rfl, hw⟩ dX9_goesTo_25
    · have hw := hw.2 c6
      refine v_iconst (v := 1) (pc2 := 21) S dX9_goesTo_20 (by decide) rfl ?_
      refine v_goto (tgt := 25) S dX9_goesTo_21 (by decide) ?_
      exact v_zret S (by decide) ⟨(1 : Int32), (), rfl, (by decide), rfl, hw⟩ dX9_goesTo_25
set_option maxHeartbeats 4000000 in
set_option maxRecDepth 100000 in
theorem c_X9_copyState (l : Launch) (G : GG) (N0 : Nat) (N1 : Nat) (a0 : Nat) (a1 : Nat) (v0 : (Nat → Int32)) (v1 : (Nat → Int32)) (i0 : Int32) (i1 : Int32) (Q : (Nat → Int32) → Prop) (hw : wp_X9_copyState N0 N1 v0 v1 i0 i1 Q) : Con l G yX9_copyState cX9_copyState 5 none { frames := 0, cells := 0, slots := 0, locals := 0 } [.ref a0, .int i0, .ref a1, .int i1] ([(a0, .inl (G.2.1, N0, .inl v0))] ++ [(a1, .inl (G.2.1, N1, .inl v1))]) (PV (fun u : (Nat → Int32) => [(a0, .inl (G.2.1, N0, .inl v0))] ++ [(a1, .inl (G.2.1, N1, .inl u))]) Q) 0 0 := by
  refine con_of RX9 rfl (by decide) [(0, .ref a0), (1, .int i0), (2, .ref a1), (3, .int i1)] rfl (Nat.le_of_ble_eq_true rfl) ?_
  intro p e s m args below meth c S hname
  have L3 : ∀ (x1 : Int32) (x3 : Int32) (kk : Nat) (x4 : Int32) (w1 : (Nat → Int32)), wp_X9_copyState_L3 N0 N1 v0 x1 x3 Q kk x4 w1 → V p l e { frames := 0, cells := 0, slots := 0, locals := 0 } s m args below meth c G (va_A ([(a0, .inl (G.2.1, N0, .inl v0))] ++ [(a1, .inl (G.2.1, N1, .inl v1))]) s.heap.size) 5 0 0 (MQ below (EQ G ([(a0, .inl (G.2.1, N0, .inl v0))] ++ [(a1, .inl (G.2.1, N1, .inl v1))]) s.heap.size (PV (fun u : (Nat → Int32) => [(a0, .inl (G.2.1, N0, .inl v0))] ++ [(a1, .inl (G.2.1, N1, .inl u))]) Q)) args s 0 0 (va_A ([(a0, .inl (G.2.1, N0, .inl v0))] ++ [(a1, .inl (G.2.1, N1, .inl v1))]) s.heap.size)) ([(a0, .inl (G.2.1, N0, .inl v0))] ++ [(a1, .inl (G.2.1, N1, .inl w1))]) 3 [(0, .ref a0), (1, .int x1), (2, .ref a1), (3, .int x3), (4, .int x4)] [] := by
    intro x1 x3 kk
    induction kk with
    | zero => intro x4 w1 hw; exact hw.elim
    | succ n ih =>
      intro x4 w1 hw
      refine v_iload (pc2 := 5) S 4 dX9_copyState_3 rfl rfl ?_
      refine v_bipush (v := 85) (pc2 := 7) S dX9_copyState_5 (by decide) rfl ?_
      refine v_icmp_ge (pc2 := 10) (tgt := 28) S dX9_copyState_7 (by decide) rfl (fun c1 => ?_) (fun c1 => ?_)
      · have hw := hw.1 c1
        exact v_vret S ⟨w1, rfl, rfl, hw⟩ dX9_copyState_28
      · have hw := hw.2 c1
        refine v_aload_n (pc2 := 11) S 2 dX9_copyState_10 rfl rfl rfl ?_
        refine v_iload_n (pc2 := 12) S 3 dX9_copyState_11 rfl rfl rfl ?_
        refine v_iload (pc2 := 14) S 4 dX9_copyState_12 rfl rfl ?_
        refine v_iadd (pc2 := 15) S dX9_copyState_14 rfl ?_
        refine v_aload_n (pc2 := 16) S 0 dX9_copyState_15 rfl rfl rfl ?_
        refine v_iload_n (pc2 := 17) S 1 dX9_copyState_16 rfl rfl rfl ?_
        refine v_iload (pc2 := 19) S 4 dX9_copyState_17 rfl rfl ?_
        refine v_iadd (pc2 := 20) S dX9_copyState_19 rfl ?_
        obtain ⟨h2, hw⟩ := hw
        refine v_iald (pc2 := 21) S 0 rfl h2 dX9_copyState_20 rfl ?_
        obtain ⟨h3, hw⟩ := hw
        obtain ⟨g4, eg4⟩ : ∃ y : Nat → Int32, y = upd w1 (x3 + x4).toNatClampNeg (v0 (x1 + x4).toNatClampNeg) := ⟨_, rfl⟩
        have hw := hw g4 eg4
        refine v_iast (ws2 := [(a0, .inl (G.2.1, N0, .inl v0))] ++ [(a1, .inl (G.2.1, N1, .inl g4))]) (pc2 := 22) S 1 rfl h3 (by rw [eg4] <;> rfl) dX9_copyState_21 rfl ?_
        obtain ⟨z5, ez5⟩ : ∃ y : Int32, y = x4 + (1 : Int32) := ⟨_, rfl⟩
        have hw := hw z5 ez5
        refine v_iinc (v := z5) (lv2 := [(0, .ref a0), (1, .int x1), (2, .ref a1), (3, .int x3), (4, .int z5)]) (pc2 := 25) S 4 dX9_copyState_22 rfl (by rw [ez5]; rfl) (by decide) [1, 2, 3, 4, 0] rfl rfl ?_
        refine v_goto (tgt := 3) S dX9_copyState_25 (by decide) ?_
        exact ih z5 g4 hw
  refine v_iconst (v := 0) (pc2 := 1) S dX9_copyState_0 (by decide) rfl ?_
  refine v_istore (lv2 := [(0, .ref a0), (1, .int i0), (2, .ref a1), (3, .int i1), (4, .int (0 : Int32))]) (pc2 := 3) S dX9_copyState_1 (by decide) [1, 2, 3, 4, 0] rfl rfl ?_
  obtain ⟨kk, hw⟩ := hw
  exact L3 i0 i1 kk (0 : Int32) v1 hw
set_option maxHeartbeats 4000000 in
set_option maxRecDepth 100000 in
theorem c_X9_record (l : Launch) (G : GG) (a0 : ModA) (v0 : ModV) (Q : ModV → Prop) (hw : wp_X9_record v0 Q) : Con l G yX9_record cX9_record 2 none { frames := 1, cells := 0, slots := 0, locals := 24 } [.ref a0.1] (wMod G a0 v0.1 v0.2.1 v0.2.2.1 v0.2.2.2.1 v0.2.2.2.2.1 v0.2.2.2.2.2.1 v0.2.2.2.2.2.2.1 v0.2.2.2.2.2.2.2.1 v0.2.2.2.2.2.2.2.2.1 v0.2.2.2.2.2.2.2.2.2.1 v0.2.2.2.2.2.2.2.2.2.2.1 v0.2.2.2.2.2.2.2.2.2.2.2.1 v0.2.2.2.2.2.2.2.2.2.2.2.2.1 v0.2.2.2.2.2.2.2.2.2.2.2.2.2.1 v0.2.2.2.2.2.2.2.2.2.2.2.2.2.2.1 v0.2.2.2.2.2.2.2.2.2.2.2.2.2.2.2.1 v0.2.2.2.2.2.2.2.2.2.2.2.2.2.2.2.2) (PV (fun u : ModV => wMod G a0 u.1 u.2.1 u.2.2.1 u.2.2.2.1 u.2.2.2.2.1 u.2.2.2.2.2.1 u.2.2.2.2.2.2.1 u.2.2.2.2.2.2.2.1 u.2.2.2.2.2.2.2.2.1 u.2.2.2.2.2.2.2.2.2.1 u.2.2.2.2.2.2.2.2.2.2.1 u.2.2.2.2.2.2.2.2.2.2.2.1 u.2.2.2.2.2.2.2.2.2.2.2.2.1 u.2.2.2.2.2.2.2.2.2.2.2.2.2.1 u.2.2.2.2.2.2.2.2.2.2.2.2.2.2.1 u.2.2.2.2.2.2.2.2.2.2.2.2.2.2.2.1 u.2.2.2.2.2.2.2.2.2.2.2.2.2.2.2.2) Q) 0 0 := by
  refine con_of RX9 rfl (by decide) [(0, .ref a0.1)] rfl (Nat.le_of_ble_eq_true rfl) ?_
  intro p e s m args below meth c S hname
  have B48 : ∀ (w0 : ModV), wp_X9_record_B48 w0 Q → V p l e { frames := 1, cells := 0, slots := 0, locals := 24 } s m args below meth c G (va_A (wMod G a0 v0.1 v0.2.1 v0.2.2.1 v0.2.2.2.1 v0.2.2.2.2.1 v0.2.2.2.2.2.1 v0.2.2.2.2.2.2.1 v0.2.2.2.2.2.2.2.1 v0.2.2.2.2.2.2.2.2.1 v0.2.2.2.2.2.2.2.2.2.1 v0.2.2.2.2.2.2.2.2.2.2.1 v0.2.2.2.2.2.2.2.2.2.2.2.1 v0.2.2.2.2.2.2.2.2.2.2.2.2.1 v0.2.2.2.2.2.2.2.2.2.2.2.2.2.1 v0.2.2.2.2.2.2.2.2.2.2.2.2.2.2.1 v0.2.2.2.2.2.2.2.2.2.2.2.2.2.2.2.1 v0.2.2.2.2.2.2.2.2.2.2.2.2.2.2.2.2) s.heap.size) 2 0 0 (MQ below (EQ G (wMod G a0 v0.1 v0.2.1 v0.2.2.1 v0.2.2.2.1 v0.2.2.2.2.1 v0.2.2.2.2.2.1 v0.2.2.2.2.2.2.1 v0.2.2.2.2.2.2.2.1 v0.2.2.2.2.2.2.2.2.1 v0.2.2.2.2.2.2.2.2.2.1 v0.2.2.2.2.2.2.2.2.2.2.1 v0.2.2.2.2.2.2.2.2.2.2.2.1 v0.2.2.2.2.2.2.2.2.2.2.2.2.1 v0.2.2.2.2.2.2.2.2.2.2.2.2.2.1 v0.2.2.2.2.2.2.2.2.2.2.2.2.2.2.1 v0.2.2.2.2.2.2.2.2.2.2.2.2.2.2.2.1 v0.2.2.2.2.2.2.2.2.2.2.2.2.2.2.2.2) s.heap.size (PV (fun u : ModV => wMod G a0 u.1 u.2.1 u.2.2.1 u.2.2.2.1 u.2.2.2.2.1 u.2.2.2.2.2.1 u.2.2.2.2.2.2.1 u.2.2.2.2.2.2.2.1 u.2.2.2.2.2.2.2.2.1 u.2.2.2.2.2.2.2.2.2.1 u.2.2.2.2.2.2.2.2.2.2.1 u.2.2.2.2.2.2.2.2.2.2.2.1 u.2.2.2.2.2.2.2.2.2.2.2.2.1 u.2.2.2.2.2.2.2.2.2.2.2.2.2.1 u.2.2.2.2.2.2.2.2.2.2.2.2.2.2.1 u.2.2.2.2.2.2.2.2.2.2.2.2.2.2.2.1 u.2.2.2.2.2.2.2.2.2.2.2.2.2.2.2.2) Q)) args s 0 0 (va_A (wMod G a0 v0.1 v0.2.1 v0.2.2.1 v0.2.2.2.1 v0.2.2.2.2.1 v0.2.2.2.2.2.1 v0.2.2.2.2.2.2.1 v0.2.2.2.2.2.2.2.1 v0.2.2.2.2.2.2.2.2.1 v0.2.2.2.2.2.2.2.2.2.1 v0.2.2.2.2.2.2.2.2.2.2.1 v0.2.2.2.2.2.2.2.2.2.2.2.1 v0.2.2.2.2.2.2.2.2.2.2.2.2.1 v0.2.2.2.2.2.2.2.2.2.2.2.2.2.1 v0.2.2.2.2.2.2.2.2.2.2.2.2.2.2.1 v0.2.2.2.2.2.2.2.2.2.2.2.2.2.2.2.1 v0.2.2.2.2.2.2.2.2.2.2.2.2.2.2.2.2) s.heap.size)) (wMod G a0 w0.1 w0.2.1 w0.2.2.1 w0.2.2.2.1 w0.2.2.2.2.1 w0.2.2.2.2.2.1 w0.2.2.2.2.2.2.1 w0.2.2.2.2.2.2.2.1 w0.2.2.2.2.2.2.2.2.1 w0.2.2.2.2.2.2.2.2.2.1 w0.2.2.2.2.2.2.2.2.2.2.1 w0.2.2.2.2.2.2.2.2.2.2.2.1 w0.2.2.2.2.2.2.2.2.2.2.2.2.1 w0.2.2.2.2.2.2.2.2.2.2.2.2.2.1 w0.2.2.2.2.2.2.2.2.2.2.2.2.2.2.1 w0.2.2.2.2.2.2.2.2.2.2.2.2.2.2.2.1 w0.2.2.2.2.2.2.2.2.2.2.2.2.2.2.2.2) 48 [(0, .ref a0.1)] [] := by
    intro w0 hw
    refine v_aload_n (pc2 := 49) S 0 dX9_record_48 rfl rfl rfl ?_
    refine v_get (v := .ref a0.2.1) (pc2 := 52) S gf_X9_7 0 rfl rfl dX9_record_49 rfl ?_
    refine v_iconst (v := 0) (pc2 := 53) S dX9_record_52 (by decide) rfl ?_
    refine v_aload_n (pc2 := 54) S 0 dX9_record_53 rfl rfl rfl ?_
    refine v_get (v := .ref a0.2.2.2.1) (pc2 := 57) S gf_X9_16 0 rfl rfl dX9_record_54 rfl ?_
    refine v_bipush (v := 85) (pc2 := 59) S dX9_record_57 (by decide) rfl ?_
    refine v_aload_n (pc2 := 60) S 0 dX9_record_59 rfl rfl rfl ?_
    refine v_get (v := .int w0.2.2.2.1) (pc2 := 63) S gf_X9_56 0 rfl rfl dX9_record_60 rfl ?_
    refine v_imul (pc2 := 64) S dX9_record_63 rfl ?_
    refine v_callS (pc2 := 67) (As := [.ref a0.2.1, .int (0 : Int32), .ref a0.2.2.2.1, .int ((85 : Int32) * w0.2.2.2.1)]) (rest := []) S (c_X9_copyState l G 85 340 a0.2.1 a0.2.2.2.1 w0.1 w0.2.2.1 (0 : Int32) ((85 : Int32) * w0.2.2.2.1) _ hw) mf_X9_copyState u_831 u_832 rfl rfl ⟨rfl, rfl⟩ ⟨Nat.le_of_ble_eq_true rfl, Nat.le_of_ble_eq_true rfl⟩ ⟨Nat.le_of_ble_eq_true rfl, Nat.le_of_ble_eq_true rfl⟩ (Nat.le_of_ble_eq_true rfl) dX9_record_64 (frP (Rs := ([(a0.1, .inr (9, [.ref a0.2.1, .ref a0.2.2.1, .ref a0.2.2.2.1, .int w0.2.2.2.1, .ref a0.2.2.2.2.1, .int w0.2.2.2.2.2.1, .ref a0.2.2.2.2.2.1, .int w0.2.2.2.2.2.2.2.1, .int w0.2.2.2.2.2.2.2.2.1, .int w0.2.2.2.2.2.2.2.2.2.1, .int w0.2.2.2.2.2.2.2.2.2.2.1, .int w0.2.2.2.2.2.2.2.2.2.2.2.1, .ref a0.2.2.2.2.2.2.1, .int w0.2.2.2.2.2.2.2.2.2.2.2.2.2.1, .ref a0.2.2.2.2.2.2.2.1, .ref a0.2.2.2.2.2.2.2.2, .int w0.2.2.2.2.2.2.2.2.2.2.2.2.2.2.2.2]))] : va_W) ++ (([(a0.2.2.1, .inl (G.2.1, 85, .inl w0.2.1))] : va_W) ++ (([(a0.2.2.2.2.1, .inl (G.2.1, 85, .inl w0.2.2.2.2.1))] : va_W) ++ (([(a0.2.2.2.2.2.1, .inl (G.2.1, 60, .inl w0.2.2.2.2.2.2.1))] : va_W) ++ (([(a0.2.2.2.2.2.2.1, .inl (G.2.1, 124, .inl w0.2.2.2.2.2.2.2.2.2.2.2.2.1))] : va_W) ++ (([(a0.2.2.2.2.2.2.2.1, .inl (G.2.1, 6144, .inl w0.2.2.2.2.2.2.2.2.2.2.2.2.2.2.1))] : va_W) ++ (([(a0.2.2.2.2.2.2.2.2, .inl (G.2.1, 6144, .inl w0.2.2.2.2.2.2.2.2.2.2.2.2.2.2.2.1))] : va_W)))))))) (gperm [[(a0.1, .inr (9, [.ref a0.2.1, .ref a0.2.2.1, .ref a0.2.2.2.1, .int w0.2.2.2.1, .ref a0.2.2.2.2.1, .int w0.2.2.2.2.2.1, .ref a0.2.2.2.2.2.1, .int w0.2.2.2.2.2.2.2.1, .int w0.2.2.2.2.2.2.2.2.1, .int w0.2.2.2.2.2.2.2.2.2.1, .int w0.2.2.2.2.2.2.2.2.2.2.1, .int w0.2.2.2.2.2.2.2.2.2.2.2.1, .ref a0.2.2.2.2.2.2.1, .int w0.2.2.2.2.2.2.2.2.2.2.2.2.2.1, .ref a0.2.2.2.2.2.2.2.1, .ref a0.2.2.2.2.2.2.2.2, .int w0.2.2.2.2.2.2.2.2.2.2.2.2.2.2.2.2]))], [(a0.2.1, .inl (G.2.1, 85, .inl w0.1))], [(a0.2.2.1, .inl (G.2.1, 85, .inl w0.2.1))], [(a0.2.2.2.1, .inl (G.2.1, 340, .inl w0.2.2.1))], [(a0.2.2.2.2.1, .inl (G.2.1, 85, .inl w0.2.2.2.2.1))], [(a0.2.2.2.2.2.1, .inl (G.2.1, 60, .inl w0.2.2.2.2.2.2.1))], [(a0.2.2.2.2.2.2.1, .inl (G.2.1, 124, .inl w0.2.2.2.2.2.2.2.2.2.2.2.2.1))], [(a0.2.2.2.2.2.2.2.1, .inl (G.2.1, 6144, .inl w0.2.2.2.2.2.2.2.2.2.2.2.2.2.2.1))], [(a0.2.2.2.2.2.2.2.2, .inl (G.2.1, 6144, .inl w0.2.2.2.2.2.2.2.2.2.2.2.2.2.2.2.1))]] [1, 3, 0, 2, 4, 5, 6, 7, 8] rfl)) rfl (pv (fun u3 hw => ?_))
    refine v_perm _ (gperm [[(a0.2.1, .inl (G.2.1, 85, .inl w0.1))], [(a0.2.2.2.1, .inl (G.2.1, 340, .inl u3))], [(a0.1, .inr (9, [.ref a0.2.1, .ref a0.2.2.1, .ref a0.2.2.2.1, .int w0.2.2.2.1, .ref a0.2.2.2.2.1, .int w0.2.2.2.2.2.1, .ref a0.2.2.2.2.2.1, .int w0.2.2.2.2.2.2.2.1, .int w0.2.2.2.2.2.2.2.2.1, .int w0.2.2.2.2.2.2.2.2.2.1, .int w0.2.2.2.2.2.2.2.2.2.2.1, .int w0.2.2.2.2.2.2.2.2.2.2.2.1, .ref a0.2.2.2.2.2.2.1, .int w0.2.2.2.2.2.2.2.2.2.2.2.2.2.1, .ref a0.2.2.2.2.2.2.2.1, .ref a0.2.2.2.2.2.2.2.2, .int w0.2.2.2.2.2.2.2.2.2.2.2.2.2.2.2.2]))], [(a0.2.2.1, .inl (G.2.1, 85, .inl w0.2.1))], [(a0.2.2.2.2.1, .inl (G.2.1, 85, .inl w0.2.2.2.2.1))], [(a0.2.2.2.2.2.1, .inl (G.2.1, 60, .inl w0.2.2.2.2.2.2.1))], [(a0.2.2.2.2.2.2.1, .inl (G.2.1, 124, .inl w0.2.2.2.2.2.2.2.2.2.2.2.2.1))], [(a0.2.2.2.2.2.2.2.1, .inl (G.2.1, 6144, .inl w0.2.2.2.2.2.2.2.2.2.2.2.2.2.2.1))], [(a0.2.2.2.2.2.2.2.2, .inl (G.2.1, 6144, .inl w0.2.2.2.2.2.2.2.2.2.2.2.2.2.2.2.1))]] [2, 0, 3, 1, 4, 5, 6, 7, 8] rfl) ?_
    refine v_to (wMod G a0 w0.1 w0.2.1 u3 w0.2.2.2.1 w0.2.2.2.2.1 w0.2.2.2.2.2.1 w0.2.2.2.2.2.2.1 w0.2.2.2.2.2.2.2.1 w0.2.2.2.2.2.2.2.2.1 w0.2.2.2.2.2.2.2.2.2.1 w0.2.2.2.2.2.2.2.2.2.2.1 w0.2.2.2.2.2.2.2.2.2.2.2.1 w0.2.2.2.2.2.2.2.2.2.2.2.2.1 w0.2.2.2.2.2.2.2.2.2.2.2.2.2.1 w0.2.2.2.2.2.2.2.2.2.2.2.2.2.2.1 w0.2.2.2.2.2.2.2.2.2.2.2.2.2.2.2.1 w0.2.2.2.2.2.2.2.2.2.2.2.2.2.2.2.2) 67 [(0, .ref a0.1)] _ [] rfl rfl rfl rfl ?_
    refine v_aload_n (pc2 := 68) S 0 dX9_record_67 rfl rfl rfl ?_
    refine v_dup (pc2 := 69) S dX9_record_68 rfl rfl ?_
    refine v_get (v := .int w0.2.2.2.1) (pc2 := 72) S gf_X9_56 0 rfl rfl dX9_record_69 rfl ?_
    refine v_iconst (v := 1) (pc2 := 73) S dX9_record_72 (by decide) rfl ?_
    refine v_iadd (pc2 := 74) S dX9_record_73 rfl ?_
    refine v_nm (fun z4 ez4 => ?_)
    have hw := hw z4 ez4
    refine v_put (ws2 := wMod G a0 w0.1 w0.2.1 u3 z4 w0.2.2.2.2.1 w0.2.2.2.2.2.1 w0.2.2.2.2.2.2.1 w0.2.2.2.2.2.2.2.1 w0.2.2.2.2.2.2.2.2.1 w0.2.2.2.2.2.2.2.2.2.1 w0.2.2.2.2.2.2.2.2.2.2.1 w0.2.2.2.2.2.2.2.2.2.2.2.1 w0.2.2.2.2.2.2.2.2.2.2.2.2.1 w0.2.2.2.2.2.2.2.2.2.2.2.2.2.1 w0.2.2.2.2.2.2.2.2.2.2.2.2.2.2.1 w0.2.2.2.2.2.2.2.2.2.2.2.2.2.2.2.1 w0.2.2.2.2.2.2.2.2.2.2.2.2.2.2.2.2) (pc2 := 77) S gf_X9_56 pf_X9_3 0 rfl rfl rfl (Nat.le_of_ble_eq_true rfl) rfl dX9_record_74 rfl ?_
    exact v_vret S ⟨(w0.1, w0.2.1, u3, z4, w0.2.2.2.2.1, w0.2.2.2.2.2.1, w0.2.2.2.2.2.2.1, w0.2.2.2.2.2.2.2.1, w0.2.2.2.2.2.2.2.2.1, w0.2.2.2.2.2.2.2.2.2.1, w0.2.2.2.2.2.2.2.2.2.2.1, w0.2.2.2.2.2.2.2.2.2.2.2.1, w0.2.2.2.2.2.2.2.2.2.2.2.2.1, w0.2.2.2.2.2.2.2.2.2.2.2.2.2.1, w0.2.2.2.2.2.2.2.2.2.2.2.2.2.2.1, w0.2.2.2.2.2.2.2.2.2.2.2.2.2.2.2.1, w0.2.2.2.2.2.2.2.2.2.2.2.2.2.2.2.2), rfl, rfl, hw⟩ dX9_record_77
  have L10 : ∀ (kk : Nat) (x1 : Int32) (w0 : ModV), wp_X9_record_L10 Q kk x1 w0 → V p l e { frames := 1, cells := 0, slots := 0, locals := 24 } s m args below meth c G (va_A (wMod G a0 v0.1 v0.2.1 v0.2.2.1 v0.2.2.2.1 v0.2.2.2.2.1 v0.2.2.2.2.2.1 v0.2.2.2.2.2.2.1 v0.2.2.2.2.2.2.2.1 v0.2.2.2.2.2.2.2.2.1 v0.2.2.2.2.2.2.2.2.2.1 v0.2.2.2.2.2.2.2.2.2.2.1 v0.2.2.2.2.2.2.2.2.2.2.2.1 v0.2.2.2.2.2.2.2.2.2.2.2.2.1 v0.2.2.2.2.2.2.2.2.2.2.2.2.2.1 v0.2.2.2.2.2.2.2.2.2.2.2.2.2.2.1 v0.2.2.2.2.2.2.2.2.2.2.2.2.2.2.2.1 v0.2.2.2.2.2.2.2.2.2.2.2.2.2.2.2.2) s.heap.size) 2 0 0 (MQ below (EQ G (wMod G a0 v0.1 v0.2.1 v0.2.2.1 v0.2.2.2.1 v0.2.2.2.2.1 v0.2.2.2.2.2.1 v0.2.2.2.2.2.2.1 v0.2.2.2.2.2.2.2.1 v0.2.2.2.2.2.2.2.2.1 v0.2.2.2.2.2.2.2.2.2.1 v0.2.2.2.2.2.2.2.2.2.2.1 v0.2.2.2.2.2.2.2.2.2.2.2.1 v0.2.2.2.2.2.2.2.2.2.2.2.2.1 v0.2.2.2.2.2.2.2.2.2.2.2.2.2.1 v0.2.2.2.2.2.2.2.2.2.2.2.2.2.2.1 v0.2.2.2.2.2.2.2.2.2.2.2.2.2.2.2.1 v0.2.2.2.2.2.2.2.2.2.2.2.2.2.2.2.2) s.heap.size (PV (fun u : ModV => wMod G a0 u.1 u.2.1 u.2.2.1 u.2.2.2.1 u.2.2.2.2.1 u.2.2.2.2.2.1 u.2.2.2.2.2.2.1 u.2.2.2.2.2.2.2.1 u.2.2.2.2.2.2.2.2.1 u.2.2.2.2.2.2.2.2.2.1 u.2.2.2.2.2.2.2.2.2.2.1 u.2.2.2.2.2.2.2.2.2.2.2.1 u.2.2.2.2.2.2.2.2.2.2.2.2.1 u.2.2.2.2.2.2.2.2.2.2.2.2.2.1 u.2.2.2.2.2.2.2.2.2.2.2.2.2.2.1 u.2.2.2.2.2.2.2.2.2.2.2.2.2.2.2.1 u.2.2.2.2.2.2.2.2.2.2.2.2.2.2.2.2) Q)) args s 0 0 (va_A (wMod G a0 v0.1 v0.2.1 v0.2.2.1 v0.2.2.2.1 v0.2.2.2.2.1 v0.2.2.2.2.2.1 v0.2.2.2.2.2.2.1 v0.2.2.2.2.2.2.2.1 v0.2.2.2.2.2.2.2.2.1 v0.2.2.2.2.2.2.2.2.2.1 v0.2.2.2.2.2.2.2.2.2.2.1 v0.2.2.2.2.2.2.2.2.2.2.2.1 v0.2.2.2.2.2.2.2.2.2.2.2.2.1 v0.2.2.2.2.2.2.2.2.2.2.2.2.2.1 v0.2.2.2.2.2.2.2.2.2.2.2.2.2.2.1 v0.2.2.2.2.2.2.2.2.2.2.2.2.2.2.2.1 v0.2.2.2.2.2.2.2.2.2.2.2.2.2.2.2.2) s.heap.size)) (wMod G a0 w0.1 w0.2.1 w0.2.2.1 w0.2.2.2.1 w0.2.2.2.2.1 w0.2.2.2.2.2.1 w0.2.2.2.2.2.2.1 w0.2.2.2.2.2.2.2.1 w0.2.2.2.2.2.2.2.2.1 w0.2.2.2.2.2.2.2.2.2.1 w0.2.2.2.2.2.2.2.2.2.2.1 w0.2.2.2.2.2.2.2.2.2.2.2.1 w0.2.2.2.2.2.2.2.2.2.2.2.2.1 w0.2.2.2.2.2.2.2.2.2.2.2.2.2.1 w0.2.2.2.2.2.2.2.2.2.2.2.2.2.2.1 w0.2.2.2.2.2.2.2.2.2.2.2.2.2.2.2.1 w0.2.2.2.2.2.2.2.2.2.2.2.2.2.2.2.2) 10 [(0, .ref a0.1), (1, .int x1)] [] := by
    intro kk
    induction kk with
    | zero => intro x1 w0 hw; exact hw.elim
    | succ n ih =>
      intro x1 w0 hw
      refine v_iload_n (pc2 := 11) S 1 dX9_record_10 rfl rfl rfl ?_
      refine v_sipush (v := 255) (pc2 := 14) S dX9_record_11 (by decide) rfl ?_
      refine v_icmp_ge (pc2 := 17) (tgt := 38) S dX9_record_14 (by decide) rfl (fun c5 => ?_) (fun c5 => ?_)
      · have hw := hw.1 c5
        refine v_aload_n (pc2 := 39) S 0 dX9_record_38 rfl rfl rfl ?_
        refine v_dup (pc2 := 40) S dX9_record_39 rfl rfl ?_
        refine v_get (v := .int w0.2.2.2.1) (pc2 := 43) S gf_X9_56 0 rfl rfl dX9_record_40 rfl ?_
        refine v_iconst (v := 1) (pc2 := 44) S dX9_record_43 (by decide) rfl ?_
        refine v_isub (pc2 := 45) S dX9_record_44 rfl ?_
        refine v_nm (fun z6 ez6 => ?_)
        have hw := hw z6 ez6
        refine v_put (ws2 := wMod G a0 w0.1 w0.2.1 w0.2.2.1 z6 w0.2.2.2.2.1 w0.2.2.2.2.2.1 w0.2.2.2.2.2.2.1 w0.2.2.2.2.2.2.2.1 w0.2.2.2.2.2.2.2.2.1 w0.2.2.2.2.2.2.2.2.2.1 w0.2.2.2.2.2.2.2.2.2.2.1 w0.2.2.2.2.2.2.2.2.2.2.2.1 w0.2.2.2.2.2.2.2.2.2.2.2.2.1 w0.2.2.2.2.2.2.2.2.2.2.2.2.2.1 w0.2.2.2.2.2.2.2.2.2.2.2.2.2.2.1 w0.2.2.2.2.2.2.2.2.2.2.2.2.2.2.2.1 w0.2.2.2.2.2.2.2.2.2.2.2.2.2.2.2.2) (pc2 := 48) S gf_X9_56 pf_X9_3 0 rfl rfl rfl (Nat.le_of_ble_eq_true rfl) rfl dX9_record_45 rfl ?_
        refine v_lv [(0, .ref a0.1)] [0] rfl ?_
        exact B48 (w0.1, w0.2.1, w0.2.2.1, z6, w0.2.2.2.2.1, w0.2.2.2.2.2.1, w0.2.2.2.2.2.2.1, w0.2.2.2.2.2.2.2.1, w0.2.2.2.2.2.2.2.2.1, w0.2.2.2.2.2.2.2.2.2.1, w0.2.2.2.2.2.2.2.2.2.2.1, w0.2.2.2.2.2.2.2.2.2.2.2.1, w0.2.2.2.2.2.2.2.2.2.2.2.2.1, w0.2.2.2.2.2.2.2.2.2.2.2.2.2.1, w0.2.2.2.2.2.2.2.2.2.2.2.2.2.2.1, w0.2.2.2.2.2.2.2.2.2.2.2.2.2.2.2.1, w0.2.2.2.2.2.2.2.2.2.2.2.2.2.2.2.2) hw
      · have hw := hw.2 c5
        refine v_aload_n (pc2 := 18) S 0 dX9_record_17 rfl rfl rfl ?_
        refine v_get (v := .ref a0.2.2.2.1) (pc2 := 21) S gf_X9_16 0 rfl rfl dX9_record_18 rfl ?_
        refine v_iload_n (pc2 := 22) S 1 dX9_record_21 rfl rfl rfl ?_
        refine v_aload_n (pc2 := 23) S 0 dX9_record_22 rfl rfl rfl ?_
        refine v_get (v := .ref a0.2.2.2.1) (pc2 := 26) S gf_X9_16 0 rfl rfl dX9_record_23 rfl ?_
        refine v_iload_n (pc2 := 27) S 1 dX9_record_26 rfl rfl rfl ?_
        refine v_bipush (v := 85) (pc2 := 29) S dX9_record_27 (by decide) rfl ?_
        refine v_iadd (pc2 := 30) S dX9_record_29 rfl ?_
        obtain ⟨h7, hw⟩ := hw
        refine v_iald (pc2 := 31) S 3 rfl h7 dX9_record_30 rfl ?_
        obtain ⟨h8, hw⟩ := hw
        obtain ⟨g9, eg9⟩ : ∃ y : Nat → Int32, y = upd w0.2.2.1 x1.toNatClampNeg (w0.2.2.1 (x1 + (85 : Int32)).toNatClampNeg) := ⟨_, rfl⟩
        have hw := hw g9 eg9
        refine v_iast (ws2 := wMod G a0 w0.1 w0.2.1 g9 w0.2.2.2.1 w0.2.2.2.2.1 w0.2.2.2.2.2.1 w0.2.2.2.2.2.2.1 w0.2.2.2.2.2.2.2.1 w0.2.2.2.2.2.2.2.2.1 w0.2.2.2.2.2.2.2.2.2.1 w0.2.2.2.2.2.2.2.2.2.2.1 w0.2.2.2.2.2.2.2.2.2.2.2.1 w0.2.2.2.2.2.2.2.2.2.2.2.2.1 w0.2.2.2.2.2.2.2.2.2.2.2.2.2.1 w0.2.2.2.2.2.2.2.2.2.2.2.2.2.2.1 w0.2.2.2.2.2.2.2.2.2.2.2.2.2.2.2.1 w0.2.2.2.2.2.2.2.2.2.2.2.2.2.2.2.2) (pc2 := 32) S 3 rfl h8 (by rw [eg9] <;> rfl) dX9_record_31 rfl ?_
        obtain ⟨z10, ez10⟩ : ∃ y : Int32, y = x1 + (1 : Int32) := ⟨_, rfl⟩
        have hw := hw z10 ez10
        refine v_iinc (v := z10) (lv2 := [(0, .ref a0.1), (1, .int z10)]) (pc2 := 35) S 1 dX9_record_32 rfl (by rw [ez10]; rfl) (by decide) [1, 0] rfl rfl ?_
        refine v_goto (tgt := 10) S dX9_record_35 (by decide) ?_
        exact ih z10 (w0.1, w0.2.1, g9, w0.2.2.2.1, w0.2.2.2.2.1, w0.2.2.2.2.2.1, w0.2.2.2.2.2.2.1, w0.2.2.2.2.2.2.2.1, w0.2.2.2.2.2.2.2.2.1, w0.2.2.2.2.2.2.2.2.2.1, w0.2.2.2.2.2.2.2.2.2.2.1, w0.2.2.2.2.2.2.2.2.2.2.2.1, w0.2.2.2.2.2.2.2.2.2.2.2.2.1, w0.2.2.2.2.2.2.2.2.2.2.2.2.2.1, w0.2.2.2.2.2.2.2.2.2.2.2.2.2.2.1, w0.2.2.2.2.2.2.2.2.2.2.2.2.2.2.2.1, w0.2.2.2.2.2.2.2.2.2.2.2.2.2.2.2.2) hw
  refine v_aload_n (pc2 := 1) S 0 dX9_record_0 rfl rfl rfl ?_
  refine v_get (v := .int v0.2.2.2.1) (pc2 := 4) S gf_X9_56 0 rfl rfl dX9_record_1 rfl ?_
  refine v_iconst (v := 4) (pc2 := 5) S dX9_record_4 (by decide) rfl ?_
  refine v_icmp_ne (pc2 := 8) (tgt := 48) S dX9_record_5 (by decide) rfl (fun c1 => ?_) (fun c1 => ?_)
  · have hw := hw.1 c1
    exact B48 v0 hw
  · have hw := hw.2 c1
    refine v_iconst (v := 0) (pc2 := 9) S dX9_record_8 (by decide) rfl ?_
    refine v_istore_n (lv2 := [(0, .ref a0.1), (1, .int (0 : Int32))]) (pc2 := 10) S dX9_record_9 rfl (by decide) [1, 0] rfl rfl ?_
    obtain ⟨kk, hw⟩ := hw
    exact L10 kk (0 : Int32) v0 hw
set_option maxHeartbeats 4000000 in
set_option maxRecDepth 100000 in
theorem c_X9_undo (l : Launch) (G : GG) (a0 : ModA) (v0 : ModV) (Q : Int32 → ModV → Prop) (hw : wp_X9_undo v0 Q) : Con l G yX9_undo cX9_undo 1 (some .int) { frames := 1, cells := 0, slots := 0, locals := 24 } [.ref a0.1] (wMod G a0 v0.1 v0.2.1 v0.2.2.1 v0.2.2.2.1 v0.2.2.2.2.1 v0.2.2.2.2.2.1 v0.2.2.2.2.2.2.1 v0.2.2.2.2.2.2.2.1 v0.2.2.2.2.2.2.2.2.1 v0.2.2.2.2.2.2.2.2.2.1 v0.2.2.2.2.2.2.2.2.2.2.1 v0.2.2.2.2.2.2.2.2.2.2.2.1 v0.2.2.2.2.2.2.2.2.2.2.2.2.1 v0.2.2.2.2.2.2.2.2.2.2.2.2.2.1 v0.2.2.2.2.2.2.2.2.2.2.2.2.2.2.1 v0.2.2.2.2.2.2.2.2.2.2.2.2.2.2.2.1 v0.2.2.2.2.2.2.2.2.2.2.2.2.2.2.2.2) (PI (fun u : ModV => wMod G a0 u.1 u.2.1 u.2.2.1 u.2.2.2.1 u.2.2.2.2.1 u.2.2.2.2.2.1 u.2.2.2.2.2.2.1 u.2.2.2.2.2.2.2.1 u.2.2.2.2.2.2.2.2.1 u.2.2.2.2.2.2.2.2.2.1 u.2.2.2.2.2.2.2.2.2.2.1 u.2.2.2.2.2.2.2.2.2.2.2.1 u.2.2.2.2.2.2.2.2.2.2.2.2.1 u.2.2.2.2.2.2.2.2.2.2.2.2.2.1 u.2.2.2.2.2.2.2.2.2.2.2.2.2.2.1 u.2.2.2.2.2.2.2.2.2.2.2.2.2.2.2.1 u.2.2.2.2.2.2.2.2.2.2.2.2.2.2.2.2) Q) 0 0 := by
  refine con_of RX9 rfl (by decide) [(0, .ref a0.1)] rfl (Nat.le_of_ble_eq_true rfl) ?_
  intro p e s m args below meth c S hname
  refine v_aload_n (pc2 := 1) S 0 dX9_undo_0 rfl rfl rfl ?_
  refine v_get (v := .int v0.2.2.2.1) (pc2 := 4) S gf_X9_56 0 rfl rfl dX9_undo_1 rfl ?_
  refine v_if_ne (pc2 := 7) (tgt := 10) S dX9_undo_4 (by decide) rfl (fun c1 => ?_) (fun c1 => ?_)
  · have hw := hw.1 c1
    refine v_aload_n (pc2 := 11) S 0 dX9_undo_10 rfl rfl rfl ?_
    refine v_dup (pc2 := 12) S dX9_undo_11 rfl rfl ?_
    refine v_get (v := .int v0.2.2.2.1) (pc2 := 15) S gf_X9_56 0 rfl rfl dX9_undo_12 rfl ?_
    refine v_iconst (v := 1) (pc2 := 16) S dX9_undo_15 (by decide) rfl ?_
    refine v_isub (pc2 := 17) S dX9_undo_16 rfl ?_
    refine v_nm (fun z2 ez2 => ?_)
    have hw := hw z2 ez2
    refine v_put (ws2 := wMod G a0 v0.1 v0.2.1 v0.2.2.1 z2 v0.2.2.2.2.1 v0.2.2.2.2.2.1 v0.2.2.2.2.2.2.1 v0.2.2.2.2.2.2.2.1 v0.2.2.2.2.2.2.2.2.1 v0.2.2.2.2.2.2.2.2.2.1 v0.2.2.2.2.2.2.2.2.2.2.1 v0.2.2.2.2.2.2.2.2.2.2.2.1 v0.2.2.2.2.2.2.2.2.2.2.2.2.1 v0.2.2.2.2.2.2.2.2.2.2.2.2.2.1 v0.2.2.2.2.2.2.2.2.2.2.2.2.2.2.1 v0.2.2.2.2.2.2.2.2.2.2.2.2.2.2.2.1 v0.2.2.2.2.2.2.2.2.2.2.2.2.2.2.2.2) (pc2 := 20) S gf_X9_56 pf_X9_3 0 rfl rfl rfl (Nat.le_of_ble_eq_true rfl) rfl dX9_undo_17 rfl ?_
    refine v_aload_n (pc2 := 21) S 0 dX9_undo_20 rfl rfl rfl ?_
    refine v_get (v := .ref a0.2.2.2.1) (pc2 := 24) S gf_X9_16 0 rfl rfl dX9_undo_21 rfl ?_
    refine v_bipush (v := 85) (pc2 := 26) S dX9_undo_24 (by decide) rfl ?_
    refine v_aload_n (pc2 := 27) S 0 dX9_undo_26 rfl rfl rfl ?_
    refine v_get (v := .int z2) (pc2 := 30) S gf_X9_56 0 rfl rfl dX9_undo_27 rfl ?_
    refine v_imul (pc2 := 31) S dX9_undo_30 rfl ?_
    refine v_aload_n (pc2 := 32) S 0 dX9_undo_31 rfl rfl rfl ?_
    refine v_get (v := .ref a0.2.1) (pc2 := 35) S gf_X9_7 0 rfl rfl dX9_undo_32 rfl ?_
    refine v_iconst (v := 0) (pc2 := 36) S dX9_undo_35 (by decide) rfl ?_
    refine v_callS (pc2 := 39) (As := [.ref a0.2.2.2.1, .int ((85 : Int32) * z2), .ref a0.2.1, .int (0 : Int32)]) (rest := []) S (c_X9_copyState l G 340 85 a0.2.2.2.1 a0.2.1 v0.2.2.1 v0.1 ((85 : Int32) * z2) (0 : Int32) _ hw) mf_X9_copyState u_831 u_832 rfl rfl ⟨rfl, rfl⟩ ⟨Nat.le_of_ble_eq_true rfl, Nat.le_of_ble_eq_true rfl⟩ ⟨Nat.le_of_ble_eq_true rfl, Nat.le_of_ble_eq_true rfl⟩ (Nat.le_of_ble_eq_true rfl) dX9_undo_36 (frP (Rs := ([(a0.1, .inr (9, [.ref a0.2.1, .ref a0.2.2.1, .ref a0.2.2.2.1, .int z2, .ref a0.2.2.2.2.1, .int v0.2.2.2.2.2.1, .ref a0.2.2.2.2.2.1, .int v0.2.2.2.2.2.2.2.1, .int v0.2.2.2.2.2.2.2.2.1, .int v0.2.2.2.2.2.2.2.2.2.1, .int v0.2.2.2.2.2.2.2.2.2.2.1, .int v0.2.2.2.2.2.2.2.2.2.2.2.1, .ref a0.2.2.2.2.2.2.1, .int v0.2.2.2.2.2.2.2.2.2.2.2.2.2.1, .ref a0.2.2.2.2.2.2.2.1, .ref a0.2.2.2.2.2.2.2.2, .int v0.2.2.2.2.2.2.2.2.2.2.2.2.2.2.2.2]))] : va_W) ++ (([(a0.2.2.1, .inl (G.2.1, 85, .inl v0.2.1))] : va_W) ++ (([(a0.2.2.2.2.1, .inl (G.2.1, 85, .inl v0.2.2.2.2.1))] : va_W) ++ (([(a0.2.2.2.2.2.1, .inl (G.2.1, 60, .inl v0.2.2.2.2.2.2.1))] : va_W) ++ (([(a0.2.2.2.2.2.2.1, .inl (G.2.1, 124, .inl v0.2.2.2.2.2.2.2.2.2.2.2.2.1))] : va_W) ++ (([(a0.2.2.2.2.2.2.2.1, .inl (G.2.1, 6144, .inl v0.2.2.2.2.2.2.2.2.2.2.2.2.2.2.1))] : va_W) ++ (([(a0.2.2.2.2.2.2.2.2, .inl (G.2.1, 6144, .inl v0.2.2.2.2.2.2.2.2.2.2.2.2.2.2.2.1))] : va_W)))))))) (gperm [[(a0.1, .inr (9, [.ref a0.2.1, .ref a0.2.2.1, .ref a0.2.2.2.1, .int z2, .ref a0.2.2.2.2.1, .int v0.2.2.2.2.2.1, .ref a0.2.2.2.2.2.1, .int v0.2.2.2.2.2.2.2.1, .int v0.2.2.2.2.2.2.2.2.1, .int v0.2.2.2.2.2.2.2.2.2.1, .int v0.2.2.2.2.2.2.2.2.2.2.1, .int v0.2.2.2.2.2.2.2.2.2.2.2.1, .ref a0.2.2.2.2.2.2.1, .int v0.2.2.2.2.2.2.2.2.2.2.2.2.2.1, .ref a0.2.2.2.2.2.2.2.1, .ref a0.2.2.2.2.2.2.2.2, .int v0.2.2.2.2.2.2.2.2.2.2.2.2.2.2.2.2]))], [(a0.2.1, .inl (G.2.1, 85, .inl v0.1))], [(a0.2.2.1, .inl (G.2.1, 85, .inl v0.2.1))], [(a0.2.2.2.1, .inl (G.2.1, 340, .inl v0.2.2.1))], [(a0.2.2.2.2.1, .inl (G.2.1, 85, .inl v0.2.2.2.2.1))], [(a0.2.2.2.2.2.1, .inl (G.2.1, 60, .inl v0.2.2.2.2.2.2.1))], [(a0.2.2.2.2.2.2.1, .inl (G.2.1, 124, .inl v0.2.2.2.2.2.2.2.2.2.2.2.2.1))], [(a0.2.2.2.2.2.2.2.1, .inl (G.2.1, 6144, .inl v0.2.2.2.2.2.2.2.2.2.2.2.2.2.2.1))], [(a0.2.2.2.2.2.2.2.2, .inl (G.2.1, 6144, .inl v0.2.2.2.2.2.2.2.2.2.2.2.2.2.2.2.1))]] [3, 1, 0, 2, 4, 5, 6, 7, 8] rfl)) rfl (pv (fun u4 hw => ?_))
    refine v_perm _ (gperm [[(a0.2.2.2.1, .inl (G.2.1, 340, .inl v0.2.2.1))], [(a0.2.1, .inl (G.2.1, 85, .inl u4))], [(a0.1, .inr (9, [.ref a0.2.1, .ref a0.2.2.1, .ref a0.2.2.2.1, .int z2, .ref a0.2.2.2.2.1, .int v0.2.2.2.2.2.1, .ref a0.2.2.2.2.2.1, .int v0.2.2.2.2.2.2.2.1, .int v0.2.2.2.2.2.2.2.2.1, .int v0.2.2.2.2.2.2.2.2.2.1, .int v0.2.2.2.2.2.2.2.2.2.2.1, .int v0.2.2.2.2.2.2.2.2.2.2.2.1, .ref a0.2.2.2.2.2.2.1, .int v0.2.2.2.2.2.2.2.2.2.2.2.2.2.1, .ref a0.2.2.2.2.2.2.2.1, .ref a0.2.2.2.2.2.2.2.2, .int v0.2.2.2.2.2.2.2.2.2.2.2.2.2.2.2.2]))], [(a0.2.2.1, .inl (G.2.1, 85, .inl v0.2.1))], [(a0.2.2.2.2.1, .inl (G.2.1, 85, .inl v0.2.2.2.2.1))], [(a0.2.2.2.2.2.1, .inl (G.2.1, 60, .inl v0.2.2.2.2.2.2.1))], [(a0.2.2.2.2.2.2.1, .inl (G.2.1, 124, .inl v0.2.2.2.2.2.2.2.2.2.2.2.2.1))], [(a0.2.2.2.2.2.2.2.1, .inl (G.2.1, 6144, .inl v0.2.2.2.2.2.2.2.2.2.2.2.2.2.2.1))], [(a0.2.2.2.2.2.2.2.2, .inl (G.2.1, 6144, .inl v0.2.2.2.2.2.2.2.2.2.2.2.2.2.2.2.1))]] [2, 1, 3, 0, 4, 5, 6, 7, 8] rfl) ?_
    refine v_to (wMod G a0 u4 v0.2.1 v0.2.2.1 z2 v0.2.2.2.2.1 v0.2.2.2.2.2.1 v0.2.2.2.2.2.2.1 v0.2.2.2.2.2.2.2.1 v0.2.2.2.2.2.2.2.2.1 v0.2.2.2.2.2.2.2.2.2.1 v0.2.2.2.2.2.2.2.2.2.2.1 v0.2.2.2.2.2.2.2.2.2.2.2.1 v0.2.2.2.2.2.2.2.2.2.2.2.2.1 v0.2.2.2.2.2.2.2.2.2.2.2.2.2.1 v0.2.2.2.2.2.2.2.2.2.2.2.2.2.2.1 v0.2.2.2.2.2.2.2.2.2.2.2.2.2.2.2.1 v0.2.2.2.2.2.2.2.2.2.2.2.2.2.2.2.2) 39 [(0, .ref a0.1)] _ [] rfl rfl rfl rfl ?_
    refine v_aload_n (pc2 := 40) S 0 dX9_undo_39 rfl rfl rfl ?_
    refine v_get (v := .int z2) (pc2 := 43) S gf_X9_56 0 rfl rfl dX9_undo_40 rfl ?_
    exact v_iret S ⟨z2, (u4, v0.2.1, v0.2.2.1, z2, v0.2.2.2.2.1, v0.2.2.2.2.2.1, v0.2.2.2.2.2.2.1, v0.2.2.2.2.2.2.2.1, v0.2.2.2.2.2.2.2.2.1, v0.2.2.2.2.2.2.2.2.2.1, v0.2.2.2.2.2.2.2.2.2.2.1, v0.2.2.2.2.2.2.2.2.2.2.2.1, v0.2.2.2.2.2.2.2.2.2.2.2.2.1, v0.2.2.2.2.2.2.2.2.2.2.2.2.2.1, v0.2.2.2.2.2.2.2.2.2.2.2.2.2.2.1, v0.2.2.2.2.2.2.2.2.2.2.2.2.2.2.2.1, v0.2.2.2.2.2.2.2.2.2.2.2.2.2.2.2.2), rfl, rfl, hw⟩ dX9_undo_43
  · have hw := hw.2 c1
    refine v_bipush (v := -2) (pc2 := 9) S dX9_undo_7 (by decide) rfl ?_
    exact v_iret S ⟨(-2 : Int32), v0, rfl, rfl, hw⟩ dX9_undo_9
set_option maxHeartbeats 4000000 in
set_option maxRecDepth 100000 in
theorem c_X9_openSet (l : Launch) (G : GG) (a0 : ModA) (v0 : ModV) (Q : Int32 → Prop) (hw : wp_X9_openSet v0 Q) : Con l G yX9_openSet cX9_openSet 3 (some .int) { frames := 1, cells := 0, slots := 0, locals := 22 } [.ref a0.1] (wMod G a0 v0.1 v0.2.1 v0.2.2.1 v0.2.2.2.1 v0.2.2.2.2.1 v0.2.2.2.2.2.1 v0.2.2.2.2.2.2.1 v0.2.2.2.2.2.2.2.1 v0.2.2.2.2.2.2.2.2.1 v0.2.2.2.2.2.2.2.2.2.1 v0.2.2.2.2.2.2.2.2.2.2.1 v0.2.2.2.2.2.2.2.2.2.2.2.1 v0.2.2.2.2.2.2.2.2.2.2.2.2.1 v0.2.2.2.2.2.2.2.2.2.2.2.2.2.1 v0.2.2.2.2.2.2.2.2.2.2.2.2.2.2.1 v0.2.2.2.2.2.2.2.2.2.2.2.2.2.2.2.1 v0.2.2.2.2.2.2.2.2.2.2.2.2.2.2.2.2) (PI (fun _ : Unit => wMod G a0 v0.1 v0.2.1 v0.2.2.1 v0.2.2.2.1 v0.2.2.2.2.1 v0.2.2.2.2.2.1 v0.2.2.2.2.2.2.1 v0.2.2.2.2.2.2.2.1 v0.2.2.2.2.2.2.2.2.1 v0.2.2.2.2.2.2.2.2.2.1 v0.2.2.2.2.2.2.2.2.2.2.1 v0.2.2.2.2.2.2.2.2.2.2.2.1 v0.2.2.2.2.2.2.2.2.2.2.2.2.1 v0.2.2.2.2.2.2.2.2.2.2.2.2.2.1 v0.2.2.2.2.2.2.2.2.2.2.2.2.2.2.1 v0.2.2.2.2.2.2.2.2.2.2.2.2.2.2.2.1 v0.2.2.2.2.2.2.2.2.2.2.2.2.2.2.2.2) (fun r _ => Q r)) 0 0 := by
  refine con_of RX9 rfl (by decide) [(0, .ref a0.1)] rfl (Nat.le_of_ble_eq_true rfl) ?_
  intro p e s m args below meth c S hname
  have L4 : ∀ (kk : Nat) (x1 : Int32) (x2 : Int32), wp_X9_openSet_L4 v0 Q kk x1 x2 → V p l e { frames := 1, cells := 0, slots := 0, locals := 22 } s m args below meth c G (va_A (wMod G a0 v0.1 v0.2.1 v0.2.2.1 v0.2.2.2.1 v0.2.2.2.2.1 v0.2.2.2.2.2.1 v0.2.2.2.2.2.2.1 v0.2.2.2.2.2.2.2.1 v0.2.2.2.2.2.2.2.2.1 v0.2.2.2.2.2.2.2.2.2.1 v0.2.2.2.2.2.2.2.2.2.2.1 v0.2.2.2.2.2.2.2.2.2.2.2.1 v0.2.2.2.2.2.2.2.2.2.2.2.2.1 v0.2.2.2.2.2.2.2.2.2.2.2.2.2.1 v0.2.2.2.2.2.2.2.2.2.2.2.2.2.2.1 v0.2.2.2.2.2.2.2.2.2.2.2.2.2.2.2.1 v0.2.2.2.2.2.2.2.2.2.2.2.2.2.2.2.2) s.heap.size) 3 0 0 (MQ below (EQ G (wMod G a0 v0.1 v0.2.1 v0.2.2.1 v0.2.2.2.1 v0.2.2.2.2.1 v0.2.2.2.2.2.1 v0.2.2.2.2.2.2.1 v0.2.2.2.2.2.2.2.1 v0.2.2.2.2.2.2.2.2.1 v0.2.2.2.2.2.2.2.2.2.1 v0.2.2.2.2.2.2.2.2.2.2.1 v0.2.2.2.2.2.2.2.2.2.2.2.1 v0.2.2.2.2.2.2.2.2.2.2.2.2.1 v0.2.2.2.2.2.2.2.2.2.2.2.2.2.1 v0.2.2.2.2.2.2.2.2.2.2.2.2.2.2.1 v0.2.2.2.2.2.2.2.2.2.2.2.2.2.2.2.1 v0.2.2.2.2.2.2.2.2.2.2.2.2.2.2.2.2) s.heap.size (PI (fun _ : Unit => wMod G a0 v0.1 v0.2.1 v0.2.2.1 v0.2.2.2.1 v0.2.2.2.2.1 v0.2.2.2.2.2.1 v0.2.2.2.2.2.2.1 v0.2.2.2.2.2.2.2.1 v0.2.2.2.2.2.2.2.2.1 v0.2.2.2.2.2.2.2.2.2.1 v0.2.2.2.2.2.2.2.2.2.2.1 v0.2.2.2.2.2.2.2.2.2.2.2.1 v0.2.2.2.2.2.2.2.2.2.2.2.2.1 v0.2.2.2.2.2.2.2.2.2.2.2.2.2.1 v0.2.2.2.2.2.2.2.2.2.2.2.2.2.2.1 v0.2.2.2.2.2.2.2.2.2.2.2.2.2.2.2.1 v0.2.2.2.2.2.2.2.2.2.2.2.2.2.2.2.2) (fun r _ => Q r))) args s 0 0 (va_A (wMod G a0 v0.1 v0.2.1 v0.2.2.1 v0.2.2.2.1 v0.2.2.2.2.1 v0.2.2.2.2.2.1 v0.2.2.2.2.2.2.1 v0.2.2.2.2.2.2.2.1 v0.2.2.2.2.2.2.2.2.1 v0.2.2.2.2.2.2.2.2.2.1 v0.2.2.2.2.2.2.2.2.2.2.1 v0.2.2.2.2.2.2.2.2.2.2.2.1 v0.2.2.2.2.2.2.2.2.2.2.2.2.1 v0.2.2.2.2.2.2.2.2.2.2.2.2.2.1 v0.2.2.2.2.2.2.2.2.2.2.2.2.2.2.1 v0.2.2.2.2.2.2.2.2.2.2.2.2.2.2.2.1 v0.2.2.2.2.2.2.2.2.2.2.2.2.2.2.2.2) s.heap.size)) (wMod G a0 v0.1 v0.2.1 v0.2.2.1 v0.2.2.2.1 v0.2.2.2.2.1 v0.2.2.2.2.2.1 v0.2.2.2.2.2.2.1 v0.2.2.2.2.2.2.2.1 v0.2.2.2.2.2.2.2.2.1 v0.2.2.2.2.2.2.2.2.2.1 v0.2.2.2.2.2.2.2.2.2.2.1 v0.2.2.2.2.2.2.2.2.2.2.2.1 v0.2.2.2.2.2.2.2.2.2.2.2.2.1 v0.2.2.2.2.2.2.2.2.2.2.2.2.2.1 v0.2.2.2.2.2.2.2.2.2.2.2.2.2.2.1 v0.2.2.2.2.2.2.2.2.2.2.2.2.2.2.2.1 v0.2.2.2.2.2.2.2.2.2.2.2.2.2.2.2.2) 4 [(0, .ref a0.1), (1, .int x1), (2, .int x2)] [] := by
    intro kk
    induction kk with
    | zero => intro x1 x2 hw; exact hw.elim
    | succ n ih =>
      intro x1 x2 hw
      refine v_iload_n (pc2 := 5) S 2 dX9_openSet_4 rfl rfl rfl ?_
      refine v_bipush (v := 10) (pc2 := 7) S dX9_openSet_5 (by decide) rfl ?_
      refine v_icmp_ge (pc2 := 10) (tgt := 27) S dX9_openSet_7 (by decide) rfl (fun c1 => ?_) (fun c1 => ?_)
      · have hw := hw.1 c1
        refine v_iload_n (pc2 := 28) S 1 dX9_openSet_27 rfl rfl rfl ?_
        exact v_iret S ⟨x1, (), rfl, rfl, hw⟩ dX9_openSet_28
      · have hw := hw.2 c1
        refine v_iload_n (pc2 := 11) S 1 dX9_openSet_10 rfl rfl rfl ?_
        refine v_aload_n (pc2 := 12) S 0 dX9_openSet_11 rfl rfl rfl ?_
        refine v_iload_n (pc2 := 13) S 2 dX9_openSet_12 rfl rfl rfl ?_
        refine v_iconst (v := 0) (pc2 := 14) S dX9_openSet_13 (by decide) rfl ?_
        refine v_callV (pc2 := 17) (As := [.int x2, .int (0 : Int32)]) (rest := [.int x1]) S (c_X9_of l G a0 v0 x2 (0 : Int32) _ hw) mf_X9_of u_842 u_844 u_21 0 9 rfl rfl rfl rfl ⟨rfl, rfl⟩ ⟨Nat.le_of_ble_eq_true rfl, Nat.le_of_ble_eq_true rfl⟩ ⟨Nat.le_of_ble_eq_true rfl, Nat.le_of_ble_eq_true rfl⟩ (Nat.le_of_ble_eq_true rfl) dX9_openSet_14 (frW _) rfl (pi (fun r2 u3 hw => ?_))
        refine v_to (wMod G a0 v0.1 v0.2.1 v0.2.2.1 v0.2.2.2.1 v0.2.2.2.2.1 v0.2.2.2.2.2.1 v0.2.2.2.2.2.2.1 v0.2.2.2.2.2.2.2.1 v0.2.2.2.2.2.2.2.2.1 v0.2.2.2.2.2.2.2.2.2.1 v0.2.2.2.2.2.2.2.2.2.2.1 v0.2.2.2.2.2.2.2.2.2.2.2.1 v0.2.2.2.2.2.2.2.2.2.2.2.2.1 v0.2.2.2.2.2.2.2.2.2.2.2.2.2.1 v0.2.2.2.2.2.2.2.2.2.2.2.2.2.2.1 v0.2.2.2.2.2.2.2.2.2.2.2.2.2.2.2.1 v0.2.2.2.2.2.2.2.2.2.2.2.2.2.2.2.2) 17 [(0, .ref a0.1), (1, .int x1), (2, .int x2)] _ [.int r2, .int x1] rfl rfl rfl rfl ?_
        refine v_iload_n (pc2 := 18) S 2 dX9_openSet_17 rfl rfl rfl ?_
        refine v_ishl (pc2 := 19) S dX9_openSet_18 rfl ?_
        refine v_ior (pc2 := 20) S dX9_openSet_19 rfl ?_
        refine v_nm (fun z4 ez4 => ?_)
        have hw := hw z4 ez4
        refine v_istore_n (lv2 := [(0, .ref a0.1), (1, .int z4), (2, .int x2)]) (pc2 := 21) S dX9_openSet_20 rfl (by decide) [1, 0, 2] rfl rfl ?_
        obtain ⟨z5, ez5⟩ : ∃ y : Int32, y = x2 + (1 : Int32) := ⟨_, rfl⟩
        have hw := hw z5 ez5
        refine v_iinc (v := z5) (lv2 := [(0, .ref a0.1), (1, .int z4), (2, .int z5)]) (pc2 := 24) S 2 dX9_openSet_21 rfl (by rw [ez5]; rfl) (by decide) [1, 2, 0] rfl rfl ?_
        refine v_goto (tgt := 4) S dX9_openSet_24 (by decide) ?_
        exact ih z4 z5 hw
  refine v_iconst (v := 0) (pc2 := 1) S dX9_openSet_0 (by decide) rfl ?_
  refine v_istore_n (lv2 := [(0, .ref a0.1), (1, .int (0 : Int32))]) (pc2 := 2) S dX9_openSet_1 rfl (by decide) [1, 0] rfl rfl ?_
  refine v_iconst (v := 0) (pc2 := 3) S dX9_openSet_2 (by decide) rfl ?_
  refine v_istore_n (lv2 := [(0, .ref a0.1), (1, .int (0 : Int32)), (2, .int (0 : Int32))]) (pc2 := 4) S dX9_openSet_3 rfl (by decide) [1, 2, 0] rfl rfl ?_
  obtain ⟨kk, hw⟩ := hw
  exact L4 kk (0 : Int32) (0 : Int32) hw
set_option maxHeartbeats 4000000 in
set_option maxRecDepth 100000 in
theorem c_X9_save (l : Launch) (G : GG) (a0 : ModA) (v0 : ModV) (Q : Int32 → ModV → Prop) (hw : wp_X9_save v0 Q) : Con l G yX9_save cX9_save 1 (some .int) { frames := 2, cells := 0, slots := 0, locals := 44 } [.ref a0.1] (wMod G a0 v0.1 v0.2.1 v0.2.2.1 v0.2.2.2.1 v0.2.2.2.2.1 v0.2.2.2.2.2.1 v0.2.2.2.2.2.2.1 v0.2.2.2.2.2.2.2.1 v0.2.2.2.2.2.2.2.2.1 v0.2.2.2.2.2.2.2.2.2.1 v0.2.2.2.2.2.2.2.2.2.2.1 v0.2.2.2.2.2.2.2.2.2.2.2.1 v0.2.2.2.2.2.2.2.2.2.2.2.2.1 v0.2.2.2.2.2.2.2.2.2.2.2.2.2.1 v0.2.2.2.2.2.2.2.2.2.2.2.2.2.2.1 v0.2.2.2.2.2.2.2.2.2.2.2.2.2.2.2.1 v0.2.2.2.2.2.2.2.2.2.2.2.2.2.2.2.2) (PI (fun u : ModV => wMod G a0 u.1 u.2.1 u.2.2.1 u.2.2.2.1 u.2.2.2.2.1 u.2.2.2.2.2.1 u.2.2.2.2.2.2.1 u.2.2.2.2.2.2.2.1 u.2.2.2.2.2.2.2.2.1 u.2.2.2.2.2.2.2.2.2.1 u.2.2.2.2.2.2.2.2.2.2.1 u.2.2.2.2.2.2.2.2.2.2.2.1 u.2.2.2.2.2.2.2.2.2.2.2.2.1 u.2.2.2.2.2.2.2.2.2.2.2.2.2.1 u.2.2.2.2.2.2.2.2.2.2.2.2.2.2.1 u.2.2.2.2.2.2.2.2.2.2.2.2.2.2.2.1 u.2.2.2.2.2.2.2.2.2.2.2.2.2.2.2.2) Q) 0 0 := by
  refine con_of RX9 rfl (by decide) [(0, .ref a0.1)] rfl (Nat.le_of_ble_eq_true rfl) ?_
  intro p e s m args below meth c S hname
  refine v_aload_n (pc2 := 1) S 0 dX9_save_0 rfl rfl rfl ?_
  refine v_get (v := .ref a0.2.1) (pc2 := 4) S gf_X9_7 0 rfl rfl dX9_save_1 rfl ?_
  refine v_iconst (v := 0) (pc2 := 5) S dX9_save_4 (by decide) rfl ?_
  refine v_aload_n (pc2 := 6) S 0 dX9_save_5 rfl rfl rfl ?_
  refine v_get (v := .ref a0.2.2.2.2.1) (pc2 := 9) S gf_X9_19 0 rfl rfl dX9_save_6 rfl ?_
  refine v_iconst (v := 0) (pc2 := 10) S dX9_save_9 (by decide) rfl ?_
  refine v_callS (pc2 := 13) (As := [.ref a0.2.1, .int (0 : Int32), .ref a0.2.2.2.2.1, .int (0 : Int32)]) (rest := []) S (c_X9_copyState l G 85 85 a0.2.1 a0.2.2.2.2.1 v0.1 v0.2.2.2.2.1 (0 : Int32) (0 : Int32) _ hw) mf_X9_copyState u_831 u_832 rfl rfl ⟨rfl, rfl⟩ ⟨Nat.le_of_ble_eq_true rfl, Nat.le_of_ble_eq_true rfl⟩ ⟨Nat.le_of_ble_eq_true rfl, Nat.le_of_ble_eq_true rfl⟩ (Nat.le_of_ble_eq_true rfl) dX9_save_10 (frP (Rs := ([(a0.1, .inr (9, [.ref a0.2.1, .ref a0.2.2.1, .ref a0.2.2.2.1, .int v0.2.2.2.1, .ref a0.2.2.2.2.1, .int v0.2.2.2.2.2.1, .ref a0.2.2.2.2.2.1, .int v0.2.2.2.2.2.2.2.1, .int v0.2.2.2.2.2.2.2.2.1, .int v0.2.2.2.2.2.2.2.2.2.1, .int v0.2.2.2.2.2.2.2.2.2.2.1, .int v0.2.2.2.2.2.2.2.2.2.2.2.1, .ref a0.2.2.2.2.2.2.1, .int v0.2.2.2.2.2.2.2.2.2.2.2.2.2.1, .ref a0.2.2.2.2.2.2.2.1, .ref a0.2.2.2.2.2.2.2.2, .int v0.2.2.2.2.2.2.2.2.2.2.2.2.2.2.2.2]))] : va_W) ++ (([(a0.2.2.1, .inl (G.2.1, 85, .inl v0.2.1))] : va_W) ++ (([(a0.2.2.2.1, .inl (G.2.1, 340, .inl v0.2.2.1))] : va_W) ++ (([(a0.2.2.2.2.2.1, .inl (G.2.1, 60, .inl v0.2.2.2.2.2.2.1))] : va_W) ++ (([(a0.2.2.2.2.2.2.1, .inl (G.2.1, 124, .inl v0.2.2.2.2.2.2.2.2.2.2.2.2.1))] : va_W) ++ (([(a0.2.2.2.2.2.2.2.1, .inl (G.2.1, 6144, .inl v0.2.2.2.2.2.2.2.2.2.2.2.2.2.2.1))] : va_W) ++ (([(a0.2.2.2.2.2.2.2.2, .inl (G.2.1, 6144, .inl v0.2.2.2.2.2.2.2.2.2.2.2.2.2.2.2.1))] : va_W)))))))) (gperm [[(a0.1, .inr (9, [.ref a0.2.1, .ref a0.2.2.1, .ref a0.2.2.2.1, .int v0.2.2.2.1, .ref a0.2.2.2.2.1, .int v0.2.2.2.2.2.1, .ref a0.2.2.2.2.2.1, .int v0.2.2.2.2.2.2.2.1, .int v0.2.2.2.2.2.2.2.2.1, .int v0.2.2.2.2.2.2.2.2.2.1, .int v0.2.2.2.2.2.2.2.2.2.2.1, .int v0.2.2.2.2.2.2.2.2.2.2.2.1, .ref a0.2.2.2.2.2.2.1, .int v0.2.2.2.2.2.2.2.2.2.2.2.2.2.1, .ref a0.2.2.2.2.2.2.2.1, .ref a0.2.2.2.2.2.2.2.2, .int v0.2.2.2.2.2.2.2.2.2.2.2.2.2.2.2.2]))], [(a0.2.1, .inl (G.2.1, 85, .inl v0.1))], [(a0.2.2.1, .inl (G.2.1, 85, .inl v0.2.1))], [(a0.2.2.2.1, .inl (G.2.1, 340, .inl v0.2.2.1))], [(a0.2.2.2.2.1, .inl (G.2.1, 85, .inl v0.2.2.2.2.1))], [(a0.2.2.2.2.2.1, .inl (G.2.1, 60, .inl v0.2.2.2.2.2.2.1))], [(a0.2.2.2.2.2.2.1, .inl (G.2.1, 124, .inl v0.2.2.2.2.2.2.2.2.2.2.2.2.1))], [(a0.2.2.2.2.2.2.2.1, .inl (G.2.1, 6144, .inl v0.2.2.2.2.2.2.2.2.2.2.2.2.2.2.1))], [(a0.2.2.2.2.2.2.2.2, .inl (G.2.1, 6144, .inl v0.2.2.2.2.2.2.2.2.2.2.2.2.2.2.2.1))]] [1, 4, 0, 2, 3, 5, 6, 7, 8] rfl)) rfl (pv (fun u2 hw => ?_))
  refine v_perm _ (gperm [[(a0.2.1, .inl (G.2.1, 85, .inl v0.1))], [(a0.2.2.2.2.1, .inl (G.2.1, 85, .inl u2))], [(a0.1, .inr (9, [.ref a0.2.1, .ref a0.2.2.1, .ref a0.2.2.2.1, .int v0.2.2.2.1, .ref a0.2.2.2.2.1, .int v0.2.2.2.2.2.1, .ref a0.2.2.2.2.2.1, .int v0.2.2.2.2.2.2.2.1, .int v0.2.2.2.2.2.2.2.2.1, .int v0.2.2.2.2.2.2.2.2.2.1, .int v0.2.2.2.2.2.2.2.2.2.2.1, .int v0.2.2.2.2.2.2.2.2.2.2.2.1, .ref a0.2.2.2.2.2.2.1, .int v0.2.2.2.2.2.2.2.2.2.2.2.2.2.1, .ref a0.2.2.2.2.2.2.2.1, .ref a0.2.2.2.2.2.2.2.2, .int v0.2.2.2.2.2.2.2.2.2.2.2.2.2.2.2.2]))], [(a0.2.2.1, .inl (G.2.1, 85, .inl v0.2.1))], [(a0.2.2.2.1, .inl (G.2.1, 340, .inl v0.2.2.1))], [(a0.2.2.2.2.2.1, .inl (G.2.1, 60, .inl v0.2.2.2.2.2.2.1))], [(a0.2.2.2.2.2.2.1, .inl (G.2.1, 124, .inl v0.2.2.2.2.2.2.2.2.2.2.2.2.1))], [(a0.2.2.2.2.2.2.2.1, .inl (G.2.1, 6144, .inl v0.2.2.2.2.2.2.2.2.2.2.2.2.2.2.1))], [(a0.2.2.2.2.2.2.2.2, .inl (G.2.1, 6144, .inl v0.2.2.2.2.2.2.2.2.2.2.2.2.2.2.2.1))]] [2, 0, 3, 4, 1, 5, 6, 7, 8] rfl) ?_
  refine v_to (wMod G a0 v0.1 v0.2.1 v0.2.2.1 v0.2.2.2.1 u2 v0.2.2.2.2.2.1 v0.2.2.2.2.2.2.1 v0.2.2.2.2.2.2.2.1 v0.2.2.2.2.2.2.2.2.1 v0.2.2.2.2.2.2.2.2.2.1 v0.2.2.2.2.2.2.2.2.2.2.1 v0.2.2.2.2.2.2.2.2.2.2.2.1 v0.2.2.2.2.2.2.2.2.2.2.2.2.1 v0.2.2.2.2.2.2.2.2.2.2.2.2.2.1 v0.2.2.2.2.2.2.2.2.2.2.2.2.2.2.1 v0.2.2.2.2.2.2.2.2.2.2.2.2.2.2.2.1 v0.2.2.2.2.2.2.2.2.2.2.2.2.2.2.2.2) 13 [(0, .ref a0.1)] _ [] rfl rfl rfl rfl ?_
  refine v_aload_n (pc2 := 14) S 0 dX9_save_13 rfl rfl rfl ?_
  refine v_iconst (v := 1) (pc2 := 15) S dX9_save_14 (by decide) rfl ?_
  refine v_put (ws2 := wMod G a0 v0.1 v0.2.1 v0.2.2.1 v0.2.2.2.1 u2 (1 : Int32) v0.2.2.2.2.2.2.1 v0.2.2.2.2.2.2.2.1 v0.2.2.2.2.2.2.2.2.1 v0.2.2.2.2.2.2.2.2.2.1 v0.2.2.2.2.2.2.2.2.2.2.1 v0.2.2.2.2.2.2.2.2.2.2.2.1 v0.2.2.2.2.2.2.2.2.2.2.2.2.1 v0.2.2.2.2.2.2.2.2.2.2.2.2.2.1 v0.2.2.2.2.2.2.2.2.2.2.2.2.2.2.1 v0.2.2.2.2.2.2.2.2.2.2.2.2.2.2.2.1 v0.2.2.2.2.2.2.2.2.2.2.2.2.2.2.2.2) (pc2 := 18) S gf_X9_63 pf_X9_5 0 rfl (by decide) (by decide) (Nat.le_of_ble_eq_true rfl) rfl dX9_save_15 rfl ?_
  refine v_aload_n (pc2 := 19) S 0 dX9_save_18 rfl rfl rfl ?_
  refine v_callV (pc2 := 22) (As := []) (rest := []) S (c_X9_openSet l G a0 (v0.1, v0.2.1, v0.2.2.1, v0.2.2.2.1, u2, (1 : Int32), v0.2.2.2.2.2.2.1, v0.2.2.2.2.2.2.2.1, v0.2.2.2.2.2.2.2.2.1, v0.2.2.2.2.2.2.2.2.2.1, v0.2.2.2.2.2.2.2.2.2.2.1, v0.2.2.2.2.2.2.2.2.2.2.2.1, v0.2.2.2.2.2.2.2.2.2.2.2.2.1, v0.2.2.2.2.2.2.2.2.2.2.2.2.2.1, v0.2.2.2.2.2.2.2.2.2.2.2.2.2.2.1, v0.2.2.2.2.2.2.2.2.2.2.2.2.2.2.2.1, v0.2.2.2.2.2.2.2.2.2.2.2.2.2.2.2.2) _ hw) mf_X9_openSet u_838 u_840 u_20 0 9 rfl rfl rfl rfl ⟨rfl, rfl⟩ ⟨Nat.le_of_ble_eq_true rfl, Nat.le_of_ble_eq_true rfl⟩ ⟨Nat.le_of_ble_eq_true rfl, Nat.le_of_ble_eq_true rfl⟩ (Nat.le_of_ble_eq_true rfl) dX9_save_19 (frW _) rfl (pi (fun r3 u4 hw => ?_))
  refine v_to (wMod G a0 v0.1 v0.2.1 v0.2.2.1 v0.2.2.2.1 u2 (1 : Int32) v0.2.2.2.2.2.2.1 v0.2.2.2.2.2.2.2.1 v0.2.2.2.2.2.2.2.2.1 v0.2.2.2.2.2.2.2.2.2.1 v0.2.2.2.2.2.2.2.2.2.2.1 v0.2.2.2.2.2.2.2.2.2.2.2.1 v0.2.2.2.2.2.2.2.2.2.2.2.2.1 v0.2.2.2.2.2.2.2.2.2.2.2.2.2.1 v0.2.2.2.2.2.2.2.2.2.2.2.2.2.2.1 v0.2.2.2.2.2.2.2.2.2.2.2.2.2.2.2.1 v0.2.2.2.2.2.2.2.2.2.2.2.2.2.2.2.2) 22 [(0, .ref a0.1)] _ [.int r3] rfl rfl rfl rfl ?_
  exact v_iret S ⟨r3, (v0.1, v0.2.1, v0.2.2.1, v0.2.2.2.1, u2, (1 : Int32), v0.2.2.2.2.2.2.1, v0.2.2.2.2.2.2.2.1, v0.2.2.2.2.2.2.2.2.1, v0.2.2.2.2.2.2.2.2.2.1, v0.2.2.2.2.2.2.2.2.2.2.1, v0.2.2.2.2.2.2.2.2.2.2.2.1, v0.2.2.2.2.2.2.2.2.2.2.2.2.1, v0.2.2.2.2.2.2.2.2.2.2.2.2.2.1, v0.2.2.2.2.2.2.2.2.2.2.2.2.2.2.1, v0.2.2.2.2.2.2.2.2.2.2.2.2.2.2.2.1, v0.2.2.2.2.2.2.2.2.2.2.2.2.2.2.2.2), rfl, rfl, hw⟩ dX9_save_22
set_option maxHeartbeats 4000000 in
set_option maxRecDepth 100000 in
theorem c_X9_restore (l : Launch) (G : GG) (a0 : ModA) (v0 : ModV) (Q : Int32 → ModV → Prop) (hw : wp_X9_restore v0 Q) : Con l G yX9_restore cX9_restore 1 (some .int) { frames := 2, cells := 0, slots := 0, locals := 45 } [.ref a0.1] (wMod G a0 v0.1 v0.2.1 v0.2.2.1 v0.2.2.2.1 v0.2.2.2.2.1 v0.2.2.2.2.2.1 v0.2.2.2.2.2.2.1 v0.2.2.2.2.2.2.2.1 v0.2.2.2.2.2.2.2.2.1 v0.2.2.2.2.2.2.2.2.2.1 v0.2.2.2.2.2.2.2.2.2.2.1 v0.2.2.2.2.2.2.2.2.2.2.2.1 v0.2.2.2.2.2.2.2.2.2.2.2.2.1 v0.2.2.2.2.2.2.2.2.2.2.2.2.2.1 v0.2.2.2.2.2.2.2.2.2.2.2.2.2.2.1 v0.2.2.2.2.2.2.2.2.2.2.2.2.2.2.2.1 v0.2.2.2.2.2.2.2.2.2.2.2.2.2.2.2.2) (PI (fun u : ModV => wMod G a0 u.1 u.2.1 u.2.2.1 u.2.2.2.1 u.2.2.2.2.1 u.2.2.2.2.2.1 u.2.2.2.2.2.2.1 u.2.2.2.2.2.2.2.1 u.2.2.2.2.2.2.2.2.1 u.2.2.2.2.2.2.2.2.2.1 u.2.2.2.2.2.2.2.2.2.2.1 u.2.2.2.2.2.2.2.2.2.2.2.1 u.2.2.2.2.2.2.2.2.2.2.2.2.1 u.2.2.2.2.2.2.2.2.2.2.2.2.2.1 u.2.2.2.2.2.2.2.2.2.2.2.2.2.2.1 u.2.2.2.2.2.2.2.2.2.2.2.2.2.2.2.1 u.2.2.2.2.2.2.2.2.2.2.2.2.2.2.2.2) Q) 0 0 := by
  refine con_of RX9 rfl (by decide) [(0, .ref a0.1)] rfl (Nat.le_of_ble_eq_true rfl) ?_
  intro p e s m args below meth c S hname
  refine v_aload_n (pc2 := 1) S 0 dX9_restore_0 rfl rfl rfl ?_
  refine v_get (v := .int v0.2.2.2.2.2.1) (pc2 := 4) S gf_X9_63 0 rfl rfl dX9_restore_1 rfl ?_
  refine v_if_ne (pc2 := 7) (tgt := 10) S dX9_restore_4 (by decide) rfl (fun c1 => ?_) (fun c1 => ?_)
  · have hw := hw.1 c1
    refine v_aload_n (pc2 := 11) S 0 dX9_restore_10 rfl rfl rfl ?_
    refine v_callV (pc2 := 14) (As := []) (rest := []) S (c_X9_record l G a0 v0 _ hw) mf_X9_record u_850 u_852 u_22 0 9 rfl rfl rfl rfl ⟨rfl, rfl⟩ ⟨Nat.le_of_ble_eq_true rfl, Nat.le_of_ble_eq_true rfl⟩ ⟨Nat.le_of_ble_eq_true rfl, Nat.le_of_ble_eq_true rfl⟩ (Nat.le_of_ble_eq_true rfl) dX9_restore_11 (frW _) rfl (pv (fun u3 hw => ?_))
    refine v_to (wMod G a0 u3.1 u3.2.1 u3.2.2.1 u3.2.2.2.1 u3.2.2.2.2.1 u3.2.2.2.2.2.1 u3.2.2.2.2.2.2.1 u3.2.2.2.2.2.2.2.1 u3.2.2.2.2.2.2.2.2.1 u3.2.2.2.2.2.2.2.2.2.1 u3.2.2.2.2.2.2.2.2.2.2.1 u3.2.2.2.2.2.2.2.2.2.2.2.1 u3.2.2.2.2.2.2.2.2.2.2.2.2.1 u3.2.2.2.2.2.2.2.2.2.2.2.2.2.1 u3.2.2.2.2.2.2.2.2.2.2.2.2.2.2.1 u3.2.2.2.2.2.2.2.2.2.2.2.2.2.2.2.1 u3.2.2.2.2.2.2.2.2.2.2.2.2.2.2.2.2) 14 [(0, .ref a0.1)] _ [] rfl rfl rfl rfl ?_
    refine v_aload_n (pc2 := 15) S 0 dX9_restore_14 rfl rfl rfl ?_
    refine v_get (v := .ref a0.2.2.2.2.1) (pc2 := 18) S gf_X9_19 0 rfl rfl dX9_restore_15 rfl ?_
    refine v_iconst (v := 0) (pc2 := 19) S dX9_restore_18 (by decide) rfl ?_
    refine v_aload_n (pc2 := 20) S 0 dX9_restore_19 rfl rfl rfl ?_
    refine v_get (v := .ref a0.2.1) (pc2 := 23) S gf_X9_7 0 rfl rfl dX9_restore_20 rfl ?_
    refine v_iconst (v := 0) (pc2 := 24) S dX9_restore_23 (by decide) rfl ?_
    refine v_callS (pc2 := 27) (As := [.ref a0.2.2.2.2.1, .int (0 : Int32), .ref a0.2.1, .int (0 : Int32)]) (rest := []) S (c_X9_copyState l G 85 85 a0.2.2.2.2.1 a0.2.1 u3.2.2.2.2.1 u3.1 (0 : Int32) (0 : Int32) _ hw) mf_X9_copyState u_831 u_832 rfl rfl ⟨rfl, rfl⟩ ⟨Nat.le_of_ble_eq_true rfl, Nat.le_of_ble_eq_true rfl⟩ ⟨Nat.le_of_ble_eq_true rfl, Nat.le_of_ble_eq_true rfl⟩ (Nat.le_of_ble_eq_true rfl) dX9_restore_24 (frP (Rs := ([(a0.1, .inr (9, [.ref a0.2.1, .ref a0.2.2.1, .ref a0.2.2.2.1, .int u3.2.2.2.1, .ref a0.2.2.2.2.1, .int u3.2.2.2.2.2.1, .ref a0.2.2.2.2.2.1, .int u3.2.2.2.2.2.2.2.1, .int u3.2.2.2.2.2.2.2.2.1, .int u3.2.2.2.2.2.2.2.2.2.1, .int u3.2.2.2.2.2.2.2.2.2.2.1, .int u3.2.2.2.2.2.2.2.2.2.2.2.1, .ref a0.2.2.2.2.2.2.1, .int u3.2.2.2.2.2.2.2.2.2.2.2.2.2.1, .ref a0.2.2.2.2.2.2.2.1, .ref a0.2.2.2.2.2.2.2.2, .int u3.2.2.2.2.2.2.2.2.2.2.2.2.2.2.2.2]))] : va_W) ++ (([(a0.2.2.1, .inl (G.2.1, 85, .inl u3.2.1))] : va_W) ++ (([(a0.2.2.2.1, .inl (G.2.1, 340, .inl u3.2.2.1))] : va_W) ++ (([(a0.2.2.2.2.2.1, .inl (G.2.1, 60, .inl u3.2.2.2.2.2.2.1))] : va_W) ++ (([(a0.2.2.2.2.2.2.1, .inl (G.2.1, 124, .inl u3.2.2.2.2.2.2.2.2.2.2.2.2.1))] : va_W) ++ (([(a0.2.2.2.2.2.2.2.1, .inl (G.2.1, 6144, .inl u3.2.2.2.2.2.2.2.2.2.2.2.2.2.2.1))] : va_W) ++ (([(a0.2.2.2.2.2.2.2.2, .inl (G.2.1, 6144, .inl u3.2.2.2.2.2.2.2.2.2.2.2.2.2.2.2.1))] : va_W)))))))) (gperm [[(a0.1, .inr (9, [.ref a0.2.1, .ref a0.2.2.1, .ref a0.2.2.2.1, .int u3.2.2.2.1, .ref a0.2.2.2.2.1, .int u3.2.2.2.2.2.1, .ref a0.2.2.2.2.2.1, .int u3.2.2.2.2.2.2.2.1, .int u3.2.2.2.2.2.2.2.2.1, .int u3.2.2.2.2.2.2.2.2.2.1, .int u3.2.2.2.2.2.2.2.2.2.2.1, .int u3.2.2.2.2.2.2.2.2.2.2.2.1, .ref a0.2.2.2.2.2.2.1, .int u3.2.2.2.2.2.2.2.2.2.2.2.2.2.1, .ref a0.2.2.2.2.2.2.2.1, .ref a0.2.2.2.2.2.2.2.2, .int u3.2.2.2.2.2.2.2.2.2.2.2.2.2.2.2.2]))], [(a0.2.1, .inl (G.2.1, 85, .inl u3.1))], [(a0.2.2.1, .inl (G.2.1, 85, .inl u3.2.1))], [(a0.2.2.2.1, .inl (G.2.1, 340, .inl u3.2.2.1))], [(a0.2.2.2.2.1, .inl (G.2.1, 85, .inl u3.2.2.2.2.1))], [(a0.2.2.2.2.2.1, .inl (G.2.1, 60, .inl u3.2.2.2.2.2.2.1))], [(a0.2.2.2.2.2.2.1, .inl (G.2.1, 124, .inl u3.2.2.2.2.2.2.2.2.2.2.2.2.1))], [(a0.2.2.2.2.2.2.2.1, .inl (G.2.1, 6144, .inl u3.2.2.2.2.2.2.2.2.2.2.2.2.2.2.1))], [(a0.2.2.2.2.2.2.2.2, .inl (G.2.1, 6144, .inl u3.2.2.2.2.2.2.2.2.2.2.2.2.2.2.2.1))]] [4, 1, 0, 2, 3, 5, 6, 7, 8] rfl)) rfl (pv (fun u5 hw => ?_))
    refine v_perm _ (gperm [[(a0.2.2.2.2.1, .inl (G.2.1, 85, .inl u3.2.2.2.2.1))], [(a0.2.1, .inl (G.2.1, 85, .inl u5))], [(a0.1, .inr (9, [.ref a0.2.1, .ref a0.2.2.1, .ref a0.2.2.2.1, .int u3.2.2.2.1, .ref a0.2.2.2.2.1, .int u3.2.2.2.2.2.1, .ref a0.2.2.2.2.2.1, .int u3.2.2.2.2.2.2.2.1, .int u3.2.2.2.2.2.2.2.2.1, .int u3.2.2.2.2.2.2.2.2.2.1, .int u3.2.2.2.2.2.2.2.2.2.2.1, .int u3.2.2.2.2.2.2.2.2.2.2.2.1, .ref a0.2.2.2.2.2.2.1, .int u3.2.2.2.2.2.2.2.2.2.2.2.2.2.1, .ref a0.2.2.2.2.2.2.2.1, .ref a0.2.2.2.2.2.2.2.2, .int u3.2.2.2.2.2.2.2.2.2.2.2.2.2.2.2.2]))], [(a0.2.2.1, .inl (G.2.1, 85, .inl u3.2.1))], [(a0.2.2.2.1, .inl (G.2.1, 340, .inl u3.2.2.1))], [(a0.2.2.2.2.2.1, .inl (G.2.1, 60, .inl u3.2.2.2.2.2.2.1))], [(a0.2.2.2.2.2.2.1, .inl (G.2.1, 124, .inl u3.2.2.2.2.2.2.2.2.2.2.2.2.1))], [(a0.2.2.2.2.2.2.2.1, .inl (G.2.1, 6144, .inl u3.2.2.2.2.2.2.2.2.2.2.2.2.2.2.1))], [(a0.2.2.2.2.2.2.2.2, .inl (G.2.1, 6144, .inl u3.2.2.2.2.2.2.2.2.2.2.2.2.2.2.2.1))]] [2, 1, 3, 4, 0, 5, 6, 7, 8] rfl) ?_
    refine v_to (wMod G a0 u5 u3.2.1 u3.2.2.1 u3.2.2.2.1 u3.2.2.2.2.1 u3.2.2.2.2.2.1 u3.2.2.2.2.2.2.1 u3.2.2.2.2.2.2.2.1 u3.2.2.2.2.2.2.2.2.1 u3.2.2.2.2.2.2.2.2.2.1 u3.2.2.2.2.2.2.2.2.2.2.1 u3.2.2.2.2.2.2.2.2.2.2.2.1 u3.2.2.2.2.2.2.2.2.2.2.2.2.1 u3.2.2.2.2.2.2.2.2.2.2.2.2.2.1 u3.2.2.2.2.2.2.2.2.2.2.2.2.2.2.1 u3.2.2.2.2.2.2.2.2.2.2.2.2.2.2.2.1 u3.2.2.2.2.2.2.2.2.2.2.2.2.2.2.2.2) 27 [(0, .ref a0.1)] _ [] rfl rfl rfl rfl ?_
    refine v_aload_n (pc2 := 28) S 0 dX9_restore_27 rfl rfl rfl ?_
    refine v_callV (pc2 := 31) (As := []) (rest := []) S (c_X9_openSet l G a0 (u5, u3.2.1, u3.2.2.1, u3.2.2.2.1, u3.2.2.2.2.1, u3.2.2.2.2.2.1, u3.2.2.2.2.2.2.1, u3.2.2.2.2.2.2.2.1, u3.2.2.2.2.2.2.2.2.1, u3.2.2.2.2.2.2.2.2.2.1, u3.2.2.2.2.2.2.2.2.2.2.1, u3.2.2.2.2.2.2.2.2.2.2.2.1, u3.2.2.2.2.2.2.2.2.2.2.2.2.1, u3.2.2.2.2.2.2.2.2.2.2.2.2.2.1, u3.2.2.2.2.2.2.2.2.2.2.2.2.2.2.1, u3.2.2.2.2.2.2.2.2.2.2.2.2.2.2.2.1, u3.2.2.2.2.2.2.2.2.2.2.2.2.2.2.2.2) _ hw) mf_X9_openSet u_838 u_840 u_20 0 9 rfl rfl rfl rfl ⟨rfl, rfl⟩ ⟨Nat.le_of_ble_eq_true rfl, Nat.le_of_ble_eq_true rfl⟩ ⟨Nat.le_of_ble_eq_true rfl, Nat.le_of_ble_eq_true rfl⟩ (Nat.le_of_ble_eq_true rfl) dX9_restore_28 (frW _) rfl (pi (fun r6 u7 hw => ?_))
    refine v_to (wMod G a0 u5 u3.2.1 u3.2.2.1 u3.2.2.2.1 u3.2.2.2.2.1 u3.2.2.2.2.2.1 u3.2.2.2.2.2.2.1 u3.2.2.2.2.2.2.2.1 u3.2.2.2.2.2.2.2.2.1 u3.2.2.2.2.2.2.2.2.2.1 u3.2.2.2.2.2.2.2.2.2.2.1 u3.2.2.2.2.2.2.2.2.2.2.2.1 u3.2.2.2.2.2.2.2.2.2.2.2.2.1 u3.2.2.2.2.2.2.2.2.2.2.2.2.2.1 u3.2.2.2.2.2.2.2.2.2.2.2.2.2.2.1 u3.2.2.2.2.2.2.2.2.2.2.2.2.2.2.2.1 u3.2.2.2.2.2.2.2.2.2.2.2.2.2.2.2.2) 31 [(0, .ref a0.1)] _ [.int r6] rfl rfl rfl rfl ?_
    exact v_iret S ⟨r6, (u5, u3.2.1, u3.2.2.1, u3.2.2.2.1, u3.2.2.2.2.1, u3.2.2.2.2.2.1, u3.2.2.2.2.2.2.1, u3.2.2.2.2.2.2.2.1, u3.2.2.2.2.2.2.2.2.1, u3.2.2.2.2.2.2.2.2.2.1, u3.2.2.2.2.2.2.2.2.2.2.1, u3.2.2.2.2.2.2.2.2.2.2.2.1, u3.2.2.2.2.2.2.2.2.2.2.2.2.1, u3.2.2.2.2.2.2.2.2.2.2.2.2.2.1, u3.2.2.2.2.2.2.2.2.2.2.2.2.2.2.1, u3.2.2.2.2.2.2.2.2.2.2.2.2.2.2.2.1, u3.2.2.2.2.2.2.2.2.2.2.2.2.2.2.2.2), rfl, rfl, hw⟩ dX9_restore_31
  · have hw := hw.2 c1
    refine v_bipush (v := -2) (pc2 := 9) S dX9_restore_7 (by decide) rfl ?_
    exact v_iret S ⟨(-2 : Int32), v0, rfl, rfl, hw⟩ dX9_restore_9
set_option maxHeartbeats 4000000 in
set_option maxRecDepth 100000 in
theorem c_X9_cordsTo (l : Launch) (G : GG) (a0 : ModA) (v0 : ModV) (i0 : Int32) (i1 : Int32) (Q : Int32 → Prop) (hw : wp_X9_cordsTo v0 i0 i1 Q) : Con l G yX9_cordsTo cX9_cordsTo 5 (some .int) { frames := 2, cells := 0, slots := 0, locals := 44 } [.ref a0.1, .int i0, .int i1] (wMod G a0 v0.1 v0.2.1 v0.2.2.1 v0.2.2.2.1 v0.2.2.2.2.1 v0.2.2.2.2.2.1 v0.2.2.2.2.2.2.1 v0.2.2.2.2.2.2.2.1 v0.2.2.2.2.2.2.2.2.1 v0.2.2.2.2.2.2.2.2.2.1 v0.2.2.2.2.2.2.2.2.2.2.1 v0.2.2.2.2.2.2.2.2.2.2.2.1 v0.2.2.2.2.2.2.2.2.2.2.2.2.1 v0.2.2.2.2.2.2.2.2.2.2.2.2.2.1 v0.2.2.2.2.2.2.2.2.2.2.2.2.2.2.1 v0.2.2.2.2.2.2.2.2.2.2.2.2.2.2.2.1 v0.2.2.2.2.2.2.2.2.2.2.2.2.2.2.2.2) (PI (fun _ : Unit => wMod G a0 v0.1 v0.2.1 v0.2.2.1 v0.2.2.2.1 v0.2.2.2.2.1 v0.2.2.2.2.2.1 v0.2.2.2.2.2.2.1 v0.2.2.2.2.2.2.2.1 v0.2.2.2.2.2.2.2.2.1 v0.2.2.2.2.2.2.2.2.2.1 v0.2.2.2.2.2.2.2.2.2.2.1 v0.2.2.2.2.2.2.2.2.2.2.2.1 v0.2.2.2.2.2.2.2.2.2.2.2.2.1 v0.2.2.2.2.2.2.2.2.2.2.2.2.2.1 v0.2.2.2.2.2.2.2.2.2.2.2.2.2.2.1 v0.2.2.2.2.2.2.2.2.2.2.2.2.2.2.2.1 v0.2.2.2.2.2.2.2.2.2.2.2.2.2.2.2.2) (fun r _ => Q r)) 0 0 := by
  refine con_of RX9 rfl (by decide) [(0, .ref a0.1), (1, .int i0), (2, .int i1)] rfl (Nat.le_of_ble_eq_true rfl) ?_
  intro p e s m args below meth c S hname
  have L5 : ∀ (x1 : Int32) (x2 : Int32) (kk : Nat) (x3 : Int32) (x4 : Int32), wp_X9_cordsTo_L5 v0 x1 x2 Q kk x3 x4 → V p l e { frames := 2, cells := 0, slots := 0, locals := 44 } s m args below meth c G (va_A (wMod G a0 v0.1 v0.2.1 v0.2.2.1 v0.2.2.2.1 v0.2.2.2.2.1 v0.2.2.2.2.2.1 v0.2.2.2.2.2.2.1 v0.2.2.2.2.2.2.2.1 v0.2.2.2.2.2.2.2.2.1 v0.2.2.2.2.2.2.2.2.2.1 v0.2.2.2.2.2.2.2.2.2.2.1 v0.2.2.2.2.2.2.2.2.2.2.2.1 v0.2.2.2.2.2.2.2.2.2.2.2.2.1 v0.2.2.2.2.2.2.2.2.2.2.2.2.2.1 v0.2.2.2.2.2.2.2.2.2.2.2.2.2.2.1 v0.2.2.2.2.2.2.2.2.2.2.2.2.2.2.2.1 v0.2.2.2.2.2.2.2.2.2.2.2.2.2.2.2.2) s.heap.size) 5 0 0 (MQ below (EQ G (wMod G a0 v0.1 v0.2.1 v0.2.2.1 v0.2.2.2.1 v0.2.2.2.2.1 v0.2.2.2.2.2.1 v0.2.2.2.2.2.2.1 v0.2.2.2.2.2.2.2.1 v0.2.2.2.2.2.2.2.2.1 v0.2.2.2.2.2.2.2.2.2.1 v0.2.2.2.2.2.2.2.2.2.2.1 v0.2.2.2.2.2.2.2.2.2.2.2.1 v0.2.2.2.2.2.2.2.2.2.2.2.2.1 v0.2.2.2.2.2.2.2.2.2.2.2.2.2.1 v0.2.2.2.2.2.2.2.2.2.2.2.2.2.2.1 v0.2.2.2.2.2.2.2.2.2.2.2.2.2.2.2.1 v0.2.2.2.2.2.2.2.2.2.2.2.2.2.2.2.2) s.heap.size (PI (fun _ : Unit => wMod G a0 v0.1 v0.2.1 v0.2.2.1 v0.2.2.2.1 v0.2.2.2.2.1 v0.2.2.2.2.2.1 v0.2.2.2.2.2.2.1 v0.2.2.2.2.2.2.2.1 v0.2.2.2.2.2.2.2.2.1 v0.2.2.2.2.2.2.2.2.2.1 v0.2.2.2.2.2.2.2.2.2.2.1 v0.2.2.2.2.2.2.2.2.2.2.2.1 v0.2.2.2.2.2.2.2.2.2.2.2.2.1 v0.2.2.2.2.2.2.2.2.2.2.2.2.2.1 v0.2.2.2.2.2.2.2.2.2.2.2.2.2.2.1 v0.2.2.2.2.2.2.2.2.2.2.2.2.2.2.2.1 v0.2.2.2.2.2.2.2.2.2.2.2.2.2.2.2.2) (fun r _ => Q r))) args s 0 0 (va_A (wMod G a0 v0.1 v0.2.1 v0.2.2.1 v0.2.2.2.1 v0.2.2.2.2.1 v0.2.2.2.2.2.1 v0.2.2.2.2.2.2.1 v0.2.2.2.2.2.2.2.1 v0.2.2.2.2.2.2.2.2.1 v0.2.2.2.2.2.2.2.2.2.1 v0.2.2.2.2.2.2.2.2.2.2.1 v0.2.2.2.2.2.2.2.2.2.2.2.1 v0.2.2.2.2.2.2.2.2.2.2.2.2.1 v0.2.2.2.2.2.2.2.2.2.2.2.2.2.1 v0.2.2.2.2.2.2.2.2.2.2.2.2.2.2.1 v0.2.2.2.2.2.2.2.2.2.2.2.2.2.2.2.1 v0.2.2.2.2.2.2.2.2.2.2.2.2.2.2.2.2) s.heap.size)) (wMod G a0 v0.1 v0.2.1 v0.2.2.1 v0.2.2.2.1 v0.2.2.2.2.1 v0.2.2.2.2.2.1 v0.2.2.2.2.2.2.1 v0.2.2.2.2.2.2.2.1 v0.2.2.2.2.2.2.2.2.1 v0.2.2.2.2.2.2.2.2.2.1 v0.2.2.2.2.2.2.2.2.2.2.1 v0.2.2.2.2.2.2.2.2.2.2.2.1 v0.2.2.2.2.2.2.2.2.2.2.2.2.1 v0.2.2.2.2.2.2.2.2.2.2.2.2.2.1 v0.2.2.2.2.2.2.2.2.2.2.2.2.2.2.1 v0.2.2.2.2.2.2.2.2.2.2.2.2.2.2.2.1 v0.2.2.2.2.2.2.2.2.2.2.2.2.2.2.2.2) 5 [(0, .ref a0.1), (1, .int x1), (2, .int x2), (3, .int x3), (4, .int x4)] [] := by
    intro x1 x2 kk
    induction kk with
    | zero => intro x3 x4 hw; exact hw.elim
    | succ n ih =>
      intro x3 x4 hw
      refine v_iload (pc2 := 7) S 4 dX9_cordsTo_5 rfl rfl ?_
      refine v_bipush (v := 10) (pc2 := 9) S dX9_cordsTo_7 (by decide) rfl ?_
      refine v_icmp_ge (pc2 := 12) (tgt := 49) S dX9_cordsTo_9 (by decide) rfl (fun c1 => ?_) (fun c1 => ?_)
      · have hw := hw.1 c1
        refine v_iload_n (pc2 := 50) S 3 dX9_cordsTo_49 rfl rfl rfl ?_
        exact v_iret S ⟨x3, (), rfl, rfl, hw⟩ dX9_cordsTo_50
      · have hw := hw.2 c1
        refine v_iload_n (pc2 := 13) S 3 dX9_cordsTo_12 rfl rfl rfl ?_
        refine v_aload_n (pc2 := 14) S 0 dX9_cordsTo_13 rfl rfl rfl ?_
        refine v_iload (pc2 := 16) S 4 dX9_cordsTo_14 rfl rfl ?_
        refine v_iload_n (pc2 := 17) S 1 dX9_cordsTo_16 rfl rfl rfl ?_
        refine v_callV (pc2 := 20) (As := [.int x4, .int x1]) (rest := [.int x3]) S (c_X9_goesTo l G a0 v0 x4 x1 _ hw) mf_X9_goesTo u_880 u_882 u_27 0 9 rfl rfl rfl rfl ⟨rfl, rfl⟩ ⟨Nat.le_of_ble_eq_true rfl, Nat.le_of_ble_eq_true rfl⟩ ⟨Nat.le_of_ble_eq_true rfl, Nat.le_of_ble_eq_true rfl⟩ (Nat.le_of_ble_eq_true rfl) dX9_cordsTo_17 (frW _) rfl (pb (fun r2 u3 br2 hw => ?_))
        refine v_to (wMod G a0 v0.1 v0.2.1 v0.2.2.1 v0.2.2.2.1 v0.2.2.2.2.1 v0.2.2.2.2.2.1 v0.2.2.2.2.2.2.1 v0.2.2.2.2.2.2.2.1 v0.2.2.2.2.2.2.2.2.1 v0.2.2.2.2.2.2.2.2.2.1 v0.2.2.2.2.2.2.2.2.2.2.1 v0.2.2.2.2.2.2.2.2.2.2.2.1 v0.2.2.2.2.2.2.2.2.2.2.2.2.1 v0.2.2.2.2.2.2.2.2.2.2.2.2.2.1 v0.2.2.2.2.2.2.2.2.2.2.2.2.2.2.1 v0.2.2.2.2.2.2.2.2.2.2.2.2.2.2.2.1 v0.2.2.2.2.2.2.2.2.2.2.2.2.2.2.2.2) 20 [(0, .ref a0.1), (1, .int x1), (2, .int x2), (3, .int x3), (4, .int x4)] _ [.int r2, .int x3] rfl rfl rfl rfl ?_
        refine v_if_eq (pc2 := 23) (tgt := 40) S dX9_cordsTo_20 (by decide) rfl (fun c4 => ?_) (fun c4 => ?_)
        · have hw := hw.1 c4
          refine v_iconst (v := 0) (pc2 := 41) S dX9_cordsTo_40 (by decide) rfl ?_
          refine v_iadd (pc2 := 42) S dX9_cordsTo_41 rfl ?_
          refine v_nm (fun z5 ez5 => ?_)
          have hw := hw z5 ez5
          refine v_istore_n (lv2 := [(0, .ref a0.1), (1, .int x1), (2, .int x2), (3, .int z5), (4, .int x4)]) (pc2 := 43) S dX9_cordsTo_42 rfl (by decide) [1, 2, 3, 0, 4] rfl rfl ?_
          obtain ⟨z6, ez6⟩ : ∃ y : Int32, y = x4 + (1 : Int32) := ⟨_, rfl⟩
          have hw := hw z6 ez6
          refine v_iinc (v := z6) (lv2 := [(0, .ref a0.1), (1, .int x1), (2, .int x2), (3, .int z5), (4, .int z6)]) (pc2 := 46) S 4 dX9_cordsTo_43 rfl (by rw [ez6]; rfl) (by decide) [1, 2, 3, 4, 0] rfl rfl ?_
          refine v_goto (tgt := 5) S dX9_cordsTo_46 (by decide) ?_
          exact ih z5 z6 hw
        · have hw := hw.2 c4
          refine v_iload_n (pc2 := 24) S 2 dX9_cordsTo_23 rfl rfl rfl ?_
          refine v_if_eq (pc2 := 27) (tgt := 36) S dX9_cordsTo_24 (by decide) rfl (fun c7 => ?_) (fun c7 => ?_)
          · have hw := hw.1 c7
            refine v_iconst (v := 1) (pc2 := 37) S dX9_cordsTo_36 (by decide) rfl ?_
            refine v_goto (tgt := 41) S dX9_cordsTo_37 (by decide) ?_
            refine v_iadd (pc2 := 42) S dX9_cordsTo_41 rfl ?_
            refine v_nm (fun z8 ez8 => ?_)
            have hw := hw z8 ez8
            refine v_istore_n (lv2 := [(0, .ref a0.1), (1, .int x1), (2, .int x2), (3, .int z8), (4, .int x4)]) (pc2 := 43) S dX9_cordsTo_42 rfl (by decide) [1, 2, 3, 0, 4] rfl rfl ?_
            obtain ⟨z9, ez9⟩ : ∃ y : Int32, y = x4 + (1 : Int32) := ⟨_, rfl⟩
            have hw := hw z9 ez9
            refine v_iinc (v := z9) (lv2 := [(0, .ref a0.1), (1, .int x1), (2, .int x2), (3, .int z8), (4, .int z9)]) (pc2 := 46) S 4 dX9_cordsTo_43 rfl (by rw [ez9]; rfl) (by decide) [1, 2, 3, 4, 0] rfl rfl ?_
            refine v_goto (tgt := 5) S dX9_cordsTo_46 (by decide) ?_
            exact ih z8 z9 hw
          · have hw := hw.2 c7
            refine v_aload_n (pc2 := 28) S 0 dX9_cordsTo_27 rfl rfl rfl ?_
            refine v_iload (pc2 := 30) S 4 dX9_cordsTo_28 rfl rfl ?_
            refine v_callV (pc2 := 33) (As := [.int x4]) (rest := [.int x3]) S (c_X9_isOpen l G a0 v0 x4 _ hw) mf_X9_isOpen u_872 u_874 u_25 0 9 rfl rfl rfl rfl ⟨rfl, rfl⟩ ⟨Nat.le_of_ble_eq_true rfl, Nat.le_of_ble_eq_true rfl⟩ ⟨Nat.le_of_ble_eq_true rfl, Nat.le_of_ble_eq_true rfl⟩ (Nat.le_of_ble_eq_true rfl) dX9_cordsTo_30 (frW _) rfl (pb (fun r10 u11 br10 hw => ?_))
            refine v_to (wMod G a0 v0.1 v0.2.1 v0.2.2.1 v0.2.2.2.1 v0.2.2.2.2.1 v0.2.2.2.2.2.1 v0.2.2.2.2.2.2.1 v0.2.2.2.2.2.2.2.1 v0.2.2.2.2.2.2.2.2.1 v0.2.2.2.2.2.2.2.2.2.1 v0.2.2.2.2.2.2.2.2.2.2.1 v0.2.2.2.2.2.2.2.2.2.2.2.1 v0.2.2.2.2.2.2.2.2.2.2.2.2.1 v0.2.2.2.2.2.2.2.2.2.2.2.2.2.1 v0.2.2.2.2.2.2.2.2.2.2.2.2.2.2.1 v0.2.2.2.2.2.2.2.2.2.2.2.2.2.2.2.1 v0.2.2.2.2.2.2.2.2.2.2.2.2.2.2.2.2) 33 [(0, .ref a0.1), (1, .int x1), (2, .int x2), (3, .int x3), (4, .int x4)] _ [.int r10, .int x3] rfl rfl rfl rfl ?_
            refine v_if_eq (pc2 := 36) (tgt := 40) S dX9_cordsTo_33 (by decide) rfl (fun c12 => ?_) (fun c12 => ?_)
            · have hw := hw.1 c12
              refine v_iconst (v := 0) (pc2 := 41) S dX9_cordsTo_40 (by decide) rfl ?_
              refine v_iadd (pc2 := 42) S dX9_cordsTo_41 rfl ?_
              refine v_nm (fun z13 ez13 => ?_)
              have hw := hw z13 ez13
              refine v_istore_n (lv2 := [(0, .ref a0.1), (1, .int x1), (2, .int x2), (3, .int z13), (4, .int x4)]) (pc2 := 43) S dX9_cordsTo_42 rfl (by decide) [1, 2, 3, 0, 4] rfl rfl ?_
              obtain ⟨z14, ez14⟩ : ∃ y : Int32, y = x4 + (1 : Int32) := ⟨_, rfl⟩
              have hw := hw z14 ez14
              refine v_iinc (v := z14) (lv2 := [(0, .ref a0.1), (1, .int x1), (2, .int x2), (3, .int z13), (4, .int z14)]) (pc2 := 46) S 4 dX9_cordsTo_43 rfl (by rw [ez14]; rfl) (by decide) [1, 2, 3, 4, 0] rfl rfl ?_
              refine v_goto (tgt := 5) S dX9_cordsTo_46 (by decide) ?_
              exact ih z13 z14 hw
            · have hw := hw.2 c12
              refine v_iconst (v := 1) (pc2 := 37) S dX9_cordsTo_36 (by decide) rfl ?_
              refine v_goto (tgt := 41) S dX9_cordsTo_37 (by decide) ?_
              refine v_iadd (pc2 := 42) S dX9_cordsTo_41 rfl ?_
              refine v_nm (fun z15 ez15 => ?_)
              have hw := hw z15 ez15
              refine v_istore_n (lv2 := [(0, .ref a0.1), (1, .int x1), (2, .int x2), (3, .int z15), (4, .int x4)]) (pc2 := 43) S dX9_cordsTo_42 rfl (by decide) [1, 2, 3, 0, 4] rfl rfl ?_
              obtain ⟨z16, ez16⟩ : ∃ y : Int32, y = x4 + (1 : Int32) := ⟨_, rfl⟩
              have hw := hw z16 ez16
              refine v_iinc (v := z16) (lv2 := [(0, .ref a0.1), (1, .int x1), (2, .int x2), (3, .int z15), (4, .int z16)]) (pc2 := 46) S 4 dX9_cordsTo_43 rfl (by rw [ez16]; rfl) (by decide) [1, 2, 3, 4, 0] rfl rfl ?_
              refine v_goto (tgt := 5) S dX9_cordsTo_46 (by decide) ?_
              exact ih z15 z16 hw
  refine v_iconst (v := 0) (pc2 := 1) S dX9_cordsTo_0 (by decide) rfl ?_
  refine v_istore_n (lv2 := [(0, .ref a0.1), (1, .int i0), (2, .int i1), (3, .int (0 : Int32))]) (pc2 := 2) S dX9_cordsTo_1 rfl (by decide) [1, 2, 3, 0] rfl rfl ?_
  refine v_iconst (v := 0) (pc2 := 3) S dX9_cordsTo_2 (by decide) rfl ?_
  refine v_istore (lv2 := [(0, .ref a0.1), (1, .int i0), (2, .int i1), (3, .int (0 : Int32)), (4, .int (0 : Int32))]) (pc2 := 5) S dX9_cordsTo_3 (by decide) [1, 2, 3, 4, 0] rfl rfl ?_
  obtain ⟨kk, hw⟩ := hw
  exact L5 i0 i1 kk (0 : Int32) (0 : Int32) hw
set_option maxHeartbeats 4000000 in
set_option maxRecDepth 100000 in
theorem c_X9_reason (l : Launch) (G : GG) (a0 : ModA) (v0 : ModV) (i0 : Int32) (Q : Int32 → Prop) (hw : wp_X9_reason v0 i0 Q) : Con l G yX9_reason cX9_reason 2 (some .int) { frames := 3, cells := 0, slots := 0, locals := 68 } [.ref a0.1, .int i0] (wMod G a0 v0.1 v0.2.1 v0.2.2.1 v0.2.2.2.1 v0.2.2.2.2.1 v0.2.2.2.2.2.1 v0.2.2.2.2.2.2.1 v0.2.2.2.2.2.2.2.1 v0.2.2.2.2.2.2.2.2.1 v0.2.2.2.2.2.2.2.2.2.1 v0.2.2.2.2.2.2.2.2.2.2.1 v0.2.2.2.2.2.2.2.2.2.2.2.1 v0.2.2.2.2.2.2.2.2.2.2.2.2.1 v0.2.2.2.2.2.2.2.2.2.2.2.2.2.1 v0.2.2.2.2.2.2.2.2.2.2.2.2.2.2.1 v0.2.2.2.2.2.2.2.2.2.2.2.2.2.2.2.1 v0.2.2.2.2.2.2.2.2.2.2.2.2.2.2.2.2) (PI (fun _ : Unit => wMod G a0 v0.1 v0.2.1 v0.2.2.1 v0.2.2.2.1 v0.2.2.2.2.1 v0.2.2.2.2.2.1 v0.2.2.2.2.2.2.1 v0.2.2.2.2.2.2.2.1 v0.2.2.2.2.2.2.2.2.1 v0.2.2.2.2.2.2.2.2.2.1 v0.2.2.2.2.2.2.2.2.2.2.1 v0.2.2.2.2.2.2.2.2.2.2.2.1 v0.2.2.2.2.2.2.2.2.2.2.2.2.1 v0.2.2.2.2.2.2.2.2.2.2.2.2.2.1 v0.2.2.2.2.2.2.2.2.2.2.2.2.2.2.1 v0.2.2.2.2.2.2.2.2.2.2.2.2.2.2.2.1 v0.2.2.2.2.2.2.2.2.2.2.2.2.2.2.2.2) (fun r _ => Q r)) 0 0 := by
  refine con_of RX9 rfl (by decide) [(0, .ref a0.1), (1, .int i0)] rfl (Nat.le_of_ble_eq_true rfl) ?_
  intro p e s m args below meth c S hname
  refine v_aload_n (pc2 := 1) S 0 dX9_reason_0 rfl rfl rfl ?_
  refine v_iload_n (pc2 := 2) S 1 dX9_reason_1 rfl rfl rfl ?_
  refine v_callV (pc2 := 5) (As := [.int i0]) (rest := []) S (c_X9_isOpen l G a0 v0 i0 _ hw) mf_X9_isOpen u_872 u_874 u_25 0 9 rfl rfl rfl rfl ⟨rfl, rfl⟩ ⟨Nat.le_of_ble_eq_true rfl, Nat.le_of_ble_eq_true rfl⟩ ⟨Nat.le_of_ble_eq_true rfl, Nat.le_of_ble_eq_true rfl⟩ (Nat.le_of_ble_eq_true rfl) dX9_reason_2 (frW _) rfl (pb (fun r1 u2 br1 hw => ?_))
  refine v_to (wMod G a0 v0.1 v0.2.1 v0.2.2.1 v0.2.2.2.1 v0.2.2.2.2.1 v0.2.2.2.2.2.1 v0.2.2.2.2.2.2.1 v0.2.2.2.2.2.2.2.1 v0.2.2.2.2.2.2.2.2.1 v0.2.2.2.2.2.2.2.2.2.1 v0.2.2.2.2.2.2.2.2.2.2.1 v0.2.2.2.2.2.2.2.2.2.2.2.1 v0.2.2.2.2.2.2.2.2.2.2.2.2.1 v0.2.2.2.2.2.2.2.2.2.2.2.2.2.1 v0.2.2.2.2.2.2.2.2.2.2.2.2.2.2.1 v0.2.2.2.2.2.2.2.2.2.2.2.2.2.2.2.1 v0.2.2.2.2.2.2.2.2.2.2.2.2.2.2.2.2) 5 [(0, .ref a0.1), (1, .int i0)] _ [.int r1] rfl rfl rfl rfl ?_
  refine v_if_eq (pc2 := 8) (tgt := 12) S dX9_reason_5 (by decide) rfl (fun c3 => ?_) (fun c3 => ?_)
  · have hw := hw.1 c3
    refine v_aload_n (pc2 := 13) S 0 dX9_reason_12 rfl rfl rfl ?_
    refine v_iload_n (pc2 := 14) S 1 dX9_reason_13 rfl rfl rfl ?_
    refine v_iconst (v := 1) (pc2 := 15) S dX9_reason_14 (by decide) rfl ?_
    refine v_callV (pc2 := 18) (As := [.int i0, .int (1 : Int32)]) (rest := []) S (c_X9_cordsTo l G a0 v0 i0 (1 : Int32) _ hw) mf_X9_cordsTo u_876 u_878 u_26 0 9 rfl rfl rfl rfl ⟨rfl, rfl⟩ ⟨Nat.le_of_ble_eq_true rfl, Nat.le_of_ble_eq_true rfl⟩ ⟨Nat.le_of_ble_eq_true rfl, Nat.le_of_ble_eq_true rfl⟩ (Nat.le_of_ble_eq_true rfl) dX9_reason_15 (frW _) rfl (pi (fun r4 u5 hw => ?_))
    refine v_to (wMod G a0 v0.1 v0.2.1 v0.2.2.1 v0.2.2.2.1 v0.2.2.2.2.1 v0.2.2.2.2.2.1 v0.2.2.2.2.2.2.1 v0.2.2.2.2.2.2.2.1 v0.2.2.2.2.2.2.2.2.1 v0.2.2.2.2.2.2.2.2.2.1 v0.2.2.2.2.2.2.2.2.2.2.1 v0.2.2.2.2.2.2.2.2.2.2.2.1 v0.2.2.2.2.2.2.2.2.2.2.2.2.1 v0.2.2.2.2.2.2.2.2.2.2.2.2.2.1 v0.2.2.2.2.2.2.2.2.2.2.2.2.2.2.1 v0.2.2.2.2.2.2.2.2.2.2.2.2.2.2.2.1 v0.2.2.2.2.2.2.2.2.2.2.2.2.2.2.2.2) 18 [(0, .ref a0.1), (1, .int i0)] _ [.int r4] rfl rfl rfl rfl ?_
    refine v_if_le (pc2 := 21) (tgt := 25) S dX9_reason_18 (by decide) rfl (fun c6 => ?_) (fun c6 => ?_)
    · have hw := hw.1 c6
      refine v_iconst (v := 0) (pc2 := 26) S dX9_reason_25 (by decide) rfl ?_
      exact v_iret S ⟨(0 : Int32), (), rfl, rfl, hw⟩ dX9_reason_26
    · have hw := hw.2 c6
      refine v_iconst (v := 2) (pc2 := 22) S dX9_reason_21 (by decide) rfl ?_
      refine v_goto (tgt := 26) S dX9_reason_22 (by decide) ?_
      exact v_iret S ⟨(2 : Int32), (), rfl, rfl, hw⟩ dX9_reason_26
  · have hw := hw.2 c3
    refine v_iconst (v := 1) (pc2 := 9) S dX9_reason_8 (by decide) rfl ?_
    refine v_goto (tgt := 26) S dX9_reason_9 (by decide) ?_
    exact v_iret S ⟨(1 : Int32), (), rfl, rfl, hw⟩ dX9_reason_26
set_option maxHeartbeats 4000000 in
set_option maxRecDepth 100000 in
theorem c_X9_openIn (l : Launch) (G : GG) (a0 : ModA) (v0 : ModV) (i0 : Int32) (Q : Int32 → Prop) (hw : wp_X9_openIn v0 i0 Q) : Con l G yX9_openIn cX9_openIn 4 (some .int) { frames := 2, cells := 0, slots := 0, locals := 44 } [.ref a0.1, .int i0] (wMod G a0 v0.1 v0.2.1 v0.2.2.1 v0.2.2.2.1 v0.2.2.2.2.1 v0.2.2.2.2.2.1 v0.2.2.2.2.2.2.1 v0.2.2.2.2.2.2.2.1 v0.2.2.2.2.2.2.2.2.1 v0.2.2.2.2.2.2.2.2.2.1 v0.2.2.2.2.2.2.2.2.2.2.1 v0.2.2.2.2.2.2.2.2.2.2.2.1 v0.2.2.2.2.2.2.2.2.2.2.2.2.1 v0.2.2.2.2.2.2.2.2.2.2.2.2.2.1 v0.2.2.2.2.2.2.2.2.2.2.2.2.2.2.1 v0.2.2.2.2.2.2.2.2.2.2.2.2.2.2.2.1 v0.2.2.2.2.2.2.2.2.2.2.2.2.2.2.2.2) (PI (fun _ : Unit => wMod G a0 v0.1 v0.2.1 v0.2.2.1 v0.2.2.2.1 v0.2.2.2.2.1 v0.2.2.2.2.2.1 v0.2.2.2.2.2.2.1 v0.2.2.2.2.2.2.2.1 v0.2.2.2.2.2.2.2.2.1 v0.2.2.2.2.2.2.2.2.2.1 v0.2.2.2.2.2.2.2.2.2.2.1 v0.2.2.2.2.2.2.2.2.2.2.2.1 v0.2.2.2.2.2.2.2.2.2.2.2.2.1 v0.2.2.2.2.2.2.2.2.2.2.2.2.2.1 v0.2.2.2.2.2.2.2.2.2.2.2.2.2.2.1 v0.2.2.2.2.2.2.2.2.2.2.2.2.2.2.2.1 v0.2.2.2.2.2.2.2.2.2.2.2.2.2.2.2.2) (fun r _ => Q r)) 0 0 := by
  refine con_of RX9 rfl (by decide) [(0, .ref a0.1), (1, .int i0)] rfl (Nat.le_of_ble_eq_true rfl) ?_
  intro p e s m args below meth c S hname
  have L4 : ∀ (x1 : Int32) (kk : Nat) (x2 : Int32) (x3 : Int32), wp_X9_openIn_L4 v0 x1 Q kk x2 x3 → V p l e { frames := 2, cells := 0, slots := 0, locals := 44 } s m args below meth c G (va_A (wMod G a0 v0.1 v0.2.1 v0.2.2.1 v0.2.2.2.1 v0.2.2.2.2.1 v0.2.2.2.2.2.1 v0.2.2.2.2.2.2.1 v0.2.2.2.2.2.2.2.1 v0.2.2.2.2.2.2.2.2.1 v0.2.2.2.2.2.2.2.2.2.1 v0.2.2.2.2.2.2.2.2.2.2.1 v0.2.2.2.2.2.2.2.2.2.2.2.1 v0.2.2.2.2.2.2.2.2.2.2.2.2.1 v0.2.2.2.2.2.2.2.2.2.2.2.2.2.1 v0.2.2.2.2.2.2.2.2.2.2.2.2.2.2.1 v0.2.2.2.2.2.2.2.2.2.2.2.2.2.2.2.1 v0.2.2.2.2.2.2.2.2.2.2.2.2.2.2.2.2) s.heap.size) 4 0 0 (MQ below (EQ G (wMod G a0 v0.1 v0.2.1 v0.2.2.1 v0.2.2.2.1 v0.2.2.2.2.1 v0.2.2.2.2.2.1 v0.2.2.2.2.2.2.1 v0.2.2.2.2.2.2.2.1 v0.2.2.2.2.2.2.2.2.1 v0.2.2.2.2.2.2.2.2.2.1 v0.2.2.2.2.2.2.2.2.2.2.1 v0.2.2.2.2.2.2.2.2.2.2.2.1 v0.2.2.2.2.2.2.2.2.2.2.2.2.1 v0.2.2.2.2.2.2.2.2.2.2.2.2.2.1 v0.2.2.2.2.2.2.2.2.2.2.2.2.2.2.1 v0.2.2.2.2.2.2.2.2.2.2.2.2.2.2.2.1 v0.2.2.2.2.2.2.2.2.2.2.2.2.2.2.2.2) s.heap.size (PI (fun _ : Unit => wMod G a0 v0.1 v0.2.1 v0.2.2.1 v0.2.2.2.1 v0.2.2.2.2.1 v0.2.2.2.2.2.1 v0.2.2.2.2.2.2.1 v0.2.2.2.2.2.2.2.1 v0.2.2.2.2.2.2.2.2.1 v0.2.2.2.2.2.2.2.2.2.1 v0.2.2.2.2.2.2.2.2.2.2.1 v0.2.2.2.2.2.2.2.2.2.2.2.1 v0.2.2.2.2.2.2.2.2.2.2.2.2.1 v0.2.2.2.2.2.2.2.2.2.2.2.2.2.1 v0.2.2.2.2.2.2.2.2.2.2.2.2.2.2.1 v0.2.2.2.2.2.2.2.2.2.2.2.2.2.2.2.1 v0.2.2.2.2.2.2.2.2.2.2.2.2.2.2.2.2) (fun r _ => Q r))) args s 0 0 (va_A (wMod G a0 v0.1 v0.2.1 v0.2.2.1 v0.2.2.2.1 v0.2.2.2.2.1 v0.2.2.2.2.2.1 v0.2.2.2.2.2.2.1 v0.2.2.2.2.2.2.2.1 v0.2.2.2.2.2.2.2.2.1 v0.2.2.2.2.2.2.2.2.2.1 v0.2.2.2.2.2.2.2.2.2.2.1 v0.2.2.2.2.2.2.2.2.2.2.2.1 v0.2.2.2.2.2.2.2.2.2.2.2.2.1 v0.2.2.2.2.2.2.2.2.2.2.2.2.2.1 v0.2.2.2.2.2.2.2.2.2.2.2.2.2.2.1 v0.2.2.2.2.2.2.2.2.2.2.2.2.2.2.2.1 v0.2.2.2.2.2.2.2.2.2.2.2.2.2.2.2.2) s.heap.size)) (wMod G a0 v0.1 v0.2.1 v0.2.2.1 v0.2.2.2.1 v0.2.2.2.2.1 v0.2.2.2.2.2.1 v0.2.2.2.2.2.2.1 v0.2.2.2.2.2.2.2.1 v0.2.2.2.2.2.2.2.2.1 v0.2.2.2.2.2.2.2.2.2.1 v0.2.2.2.2.2.2.2.2.2.2.1 v0.2.2.2.2.2.2.2.2.2.2.2.1 v0.2.2.2.2.2.2.2.2.2.2.2.2.1 v0.2.2.2.2.2.2.2.2.2.2.2.2.2.1 v0.2.2.2.2.2.2.2.2.2.2.2.2.2.2.1 v0.2.2.2.2.2.2.2.2.2.2.2.2.2.2.2.1 v0.2.2.2.2.2.2.2.2.2.2.2.2.2.2.2.2) 4 [(0, .ref a0.1), (1, .int x1), (2, .int x2), (3, .int x3)] [] := by
    intro x1 kk
    induction kk with
    | zero => intro x2 x3 hw; exact hw.elim
    | succ n ih =>
      intro x2 x3 hw
      refine v_iload_n (pc2 := 5) S 3 dX9_openIn_4 rfl rfl rfl ?_
      refine v_bipush (v := 10) (pc2 := 7) S dX9_openIn_5 (by decide) rfl ?_
      refine v_icmp_ge (pc2 := 10) (tgt := 41) S dX9_openIn_7 (by decide) rfl (fun c1 => ?_) (fun c1 => ?_)
      · have hw := hw.1 c1
        refine v_iload_n (pc2 := 42) S 2 dX9_openIn_41 rfl rfl rfl ?_
        exact v_iret S ⟨x2, (), rfl, rfl, hw⟩ dX9_openIn_42
      · have hw := hw.2 c1
        refine v_iload_n (pc2 := 11) S 2 dX9_openIn_10 rfl rfl rfl ?_
        refine v_aload_n (pc2 := 12) S 0 dX9_openIn_11 rfl rfl rfl ?_
        refine v_iload_n (pc2 := 13) S 3 dX9_openIn_12 rfl rfl rfl ?_
        refine v_callV (pc2 := 16) (As := [.int x3]) (rest := [.int x2]) S (c_X9_isOpen l G a0 v0 x3 _ hw) mf_X9_isOpen u_872 u_874 u_25 0 9 rfl rfl rfl rfl ⟨rfl, rfl⟩ ⟨Nat.le_of_ble_eq_true rfl, Nat.le_of_ble_eq_true rfl⟩ ⟨Nat.le_of_ble_eq_true rfl, Nat.le_of_ble_eq_true rfl⟩ (Nat.le_of_ble_eq_true rfl) dX9_openIn_13 (frW _) rfl (pb (fun r2 u3 br2 hw => ?_))
        refine v_to (wMod G a0 v0.1 v0.2.1 v0.2.2.1 v0.2.2.2.1 v0.2.2.2.2.1 v0.2.2.2.2.2.1 v0.2.2.2.2.2.2.1 v0.2.2.2.2.2.2.2.1 v0.2.2.2.2.2.2.2.2.1 v0.2.2.2.2.2.2.2.2.2.1 v0.2.2.2.2.2.2.2.2.2.2.1 v0.2.2.2.2.2.2.2.2.2.2.2.1 v0.2.2.2.2.2.2.2.2.2.2.2.2.1 v0.2.2.2.2.2.2.2.2.2.2.2.2.2.1 v0.2.2.2.2.2.2.2.2.2.2.2.2.2.2.1 v0.2.2.2.2.2.2.2.2.2.2.2.2.2.2.2.1 v0.2.2.2.2.2.2.2.2.2.2.2.2.2.2.2.2) 16 [(0, .ref a0.1), (1, .int x1), (2, .int x2), (3, .int x3)] _ [.int r2, .int x2] rfl rfl rfl rfl ?_
        refine v_if_eq (pc2 := 19) (tgt := 32) S dX9_openIn_16 (by decide) rfl (fun c4 => ?_) (fun c4 => ?_)
        · have hw := hw.1 c4
          refine v_iconst (v := 0) (pc2 := 33) S dX9_openIn_32 (by decide) rfl ?_
          refine v_iadd (pc2 := 34) S dX9_openIn_33 rfl ?_
          refine v_nm (fun z5 ez5 => ?_)
          have hw := hw z5 ez5
          refine v_istore_n (lv2 := [(0, .ref a0.1), (1, .int x1), (2, .int z5), (3, .int x3)]) (pc2 := 35) S dX9_openIn_34 rfl (by decide) [1, 2, 0, 3] rfl rfl ?_
          obtain ⟨z6, ez6⟩ : ∃ y : Int32, y = x3 + (1 : Int32) := ⟨_, rfl⟩
          have hw := hw z6 ez6
          refine v_iinc (v := z6) (lv2 := [(0, .ref a0.1), (1, .int x1), (2, .int z5), (3, .int z6)]) (pc2 := 38) S 3 dX9_openIn_35 rfl (by rw [ez6]; rfl) (by decide) [1, 2, 3, 0] rfl rfl ?_
          refine v_goto (tgt := 4) S dX9_openIn_38 (by decide) ?_
          exact ih z5 z6 hw
        · have hw := hw.2 c4
          refine v_aload_n (pc2 := 20) S 0 dX9_openIn_19 rfl rfl rfl ?_
          refine v_iload_n (pc2 := 21) S 3 dX9_openIn_20 rfl rfl rfl ?_
          refine v_iload_n (pc2 := 22) S 1 dX9_openIn_21 rfl rfl rfl ?_
          refine v_callV (pc2 := 25) (As := [.int x3, .int x1]) (rest := [.int x2]) S (c_X9_joins l G a0 v0 x3 x1 _ hw) mf_X9_joins u_900 u_902 u_32 0 9 rfl rfl rfl rfl ⟨rfl, rfl⟩ ⟨Nat.le_of_ble_eq_true rfl, Nat.le_of_ble_eq_true rfl⟩ ⟨Nat.le_of_ble_eq_true rfl, Nat.le_of_ble_eq_true rfl⟩ (Nat.le_of_ble_eq_true rfl) dX9_openIn_22 (frW _) rfl (pb (fun r7 u8 br7 hw => ?_))
          refine v_to (wMod G a0 v0.1 v0.2.1 v0.2.2.1 v0.2.2.2.1 v0.2.2.2.2.1 v0.2.2.2.2.2.1 v0.2.2.2.2.2.2.1 v0.2.2.2.2.2.2.2.1 v0.2.2.2.2.2.2.2.2.1 v0.2.2.2.2.2.2.2.2.2.1 v0.2.2.2.2.2.2.2.2.2.2.1 v0.2.2.2.2.2.2.2.2.2.2.2.1 v0.2.2.2.2.2.2.2.2.2.2.2.2.1 v0.2.2.2.2.2.2.2.2.2.2.2.2.2.1 v0.2.2.2.2.2.2.2.2.2.2.2.2.2.2.1 v0.2.2.2.2.2.2.2.2.2.2.2.2.2.2.2.1 v0.2.2.2.2.2.2.2.2.2.2.2.2.2.2.2.2) 25 [(0, .ref a0.1), (1, .int x1), (2, .int x2), (3, .int x3)] _ [.int r7, .int x2] rfl rfl rfl rfl ?_
          refine v_if_eq (pc2 := 28) (tgt := 32) S dX9_openIn_25 (by decide) rfl (fun c9 => ?_) (fun c9 => ?_)
          · have hw := hw.1 c9
            refine v_iconst (v := 0) (pc2 := 33) S dX9_openIn_32 (by decide) rfl ?_
            refine v_iadd (pc2 := 34) S dX9_openIn_33 rfl ?_
            refine v_nm (fun z10 ez10 => ?_)
            have hw := hw z10 ez10
            refine v_istore_n (lv2 := [(0, .ref a0.1), (1, .int x1), (2, .int z10), (3, .int x3)]) (pc2 := 35) S dX9_openIn_34 rfl (by decide) [1, 2, 0, 3] rfl rfl ?_
            obtain ⟨z11, ez11⟩ : ∃ y : Int32, y = x3 + (1 : Int32) := ⟨_, rfl⟩
            have hw := hw z11 ez11
            refine v_iinc (v := z11) (lv2 := [(0, .ref a0.1), (1, .int x1), (2, .int z10), (3, .int z11)]) (pc2 := 38) S 3 dX9_openIn_35 rfl (by rw [ez11]; rfl) (by decide) [1, 2, 3, 0] rfl rfl ?_
            refine v_goto (tgt := 4) S dX9_openIn_38 (by decide) ?_
            exact ih z10 z11 hw
          · have hw := hw.2 c9
            refine v_iconst (v := 1) (pc2 := 29) S dX9_openIn_28 (by decide) rfl ?_
            refine v_goto (tgt := 33) S dX9_openIn_29 (by decide) ?_
            refine v_iadd (pc2 := 34) S dX9_openIn_33 rfl ?_
            refine v_nm (fun z12 ez12 => ?_)
            have hw := hw z12 ez12
            refine v_istore_n (lv2 := [(0, .ref a0.1), (1, .int x1), (2, .int z12), (3, .int x3)]) (pc2 := 35) S dX9_openIn_34 rfl (by decide) [1, 2, 0, 3] rfl rfl ?_
            obtain ⟨z13, ez13⟩ : ∃ y : Int32, y = x3 + (1 : Int32) := ⟨_, rfl⟩
            have hw := hw z13 ez13
            refine v_iinc (v := z13) (lv2 := [(0, .ref a0.1), (1, .int x1), (2, .int z12), (3, .int z13)]) (pc2 := 38) S 3 dX9_openIn_35 rfl (by rw [ez13]; rfl) (by decide) [1, 2, 3, 0] rfl rfl ?_
            refine v_goto (tgt := 4) S dX9_openIn_38 (by decide) ?_
            exact ih z12 z13 hw
  refine v_iconst (v := 0) (pc2 := 1) S dX9_openIn_0 (by decide) rfl ?_
  refine v_istore_n (lv2 := [(0, .ref a0.1), (1, .int i0), (2, .int (0 : Int32))]) (pc2 := 2) S dX9_openIn_1 rfl (by decide) [1, 2, 0] rfl rfl ?_
  refine v_iconst (v := 0) (pc2 := 3) S dX9_openIn_2 (by decide) rfl ?_
  refine v_istore_n (lv2 := [(0, .ref a0.1), (1, .int i0), (2, .int (0 : Int32)), (3, .int (0 : Int32))]) (pc2 := 4) S dX9_openIn_3 rfl (by decide) [1, 2, 3, 0] rfl rfl ?_
  obtain ⟨kk, hw⟩ := hw
  exact L4 i0 kk (0 : Int32) (0 : Int32) hw
