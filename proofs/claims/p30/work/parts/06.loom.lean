/-- a contract of a method of the JDK that no row of the natives runs in its bytecode's place -/
theorem Met.ofWF {l : Launch} {y : MethodName} {ws ws' : List Cond} {rm : Room} {Pc : Array Value → State → Prop} {Qc : Array Value → State → Outcome → State → Prop} {mc ms : Nat} {free : Addr → Prop} {cc : ByteArray} {maxL : Nat} {ret : Option FieldType}
    (hy : plainFor y = true) (hw : ws = Cond.code y cc maxL ret :: ws')
    (body : ∀ p e s m args below meth c s₁, BodyLoose p l y (headSpec ws rm) cc maxL ret e s m args below meth c s₁ → c.maxLocals = maxL → Pc args s →
      W p l e (headSpec ws rm).room s m args below meth c s.heap [] 0 0 (MQ below Qc args s mc ms free) (entryFrame m args maxL)) : Met l y ws rm Pc Qc mc ms free := by
  refine MetFree.of_bodySF (code := cc) (maxLocals := maxL) (ret := ret) hy ?_ ?_
  · intro args s m h hn
    obtain ⟨meth, c, h1, h2, h3, h4, h5, h6, -, -⟩ := Cond.code_spec hn (atoms_spec (ws := ws) h _ (by rw [hw]; exact List.mem_cons_self))
    exact ⟨meth, c, h1, h2, h3, h4, h5, h6⟩
  · intro p e s m args below meth c s₁ B hml hP _
    have hh0 : s₁.heap = s.heap := by rw [B.state]; rfl
    obtain ⟨t, a1, o, b1, b2, b3⟩ := body p e s m args below meth c s₁ B hml hP s₁ hh0 (Stand.of_body B)
    exact ⟨t, o, a1, b1, b2, ⟨b3.1, b3.2⟩⟩
theorem con_ofF {l : Launch} {G : GG} {y : MethodName} {b : ByteArray} {nL : Nat} {rt : Option FieldType} {rm : Room} {av : List Value} {C : va_W} {Pq : Option Value → va_W → Prop} {mc ms : Nat} (own : String) (ho : y.cls = own) (hpn : plainFor y = true) (lv0 : List (Nat × Value)) (hlv : lv_args 0 av = lv0) (hle : (lg_sl av).length ≤ nL)
    (body : ∀ (p : Program) (e : Env) (s : State) (m : MethodId) (args : Array Value) (below : List Frame) (meth : Method) (c : Code), Fx p m c b nL s args own meth rt G (va_A C s.heap.size) → meth.name = y.name → V p l e rm s m args below meth c G (va_A C s.heap.size) nL 0 0 (MQ below (EQ G C s.heap.size Pq) args s mc ms (va_A C s.heap.size)) C 0 lv0 []) : Con l G y b nL rt rm av C Pq mc ms := by
  intro sz
  refine Met.ofWF (cc := b) (maxL := nL) (ret := rt) hpn rfl ?_
  intro p e s m args below meth c s₁ B hml hv
  obtain ⟨rfl, hsz, hP, hK, hD0, hN⟩ := hv
  subst hsz
  have hts := atoms_spec (ws := .code y b nL rt :: ub) B.pre
  have hl := lv_entry av (n := nL) hle
  rw [lg_entry_eq]
  rw [hlv] at hl
  exact body p e s m av.toArray below meth c ⟨⟨B.exec, B.bytes, hml, by rw [← ho]; exact findClass_of_methodNamed B.named, fun w h => hts w (List.mem_cons_of_mem _ h)⟩, B.returns, B.notSynchronized, hK, hN, fun q h => Or.inr h⟩ (name_of_methodNamed B.named B.method).1 s.heap [] _ hP (hD0.self) va_S.rf hl

set_option maxHeartbeats 4000000 in
set_option maxRecDepth 100000 in
theorem c_J6_bitCount_0f7a4 (l : Launch) (G : GG) (i0 : Int32) (Q : Int32 → Prop) (hw : wp_J6_bitCount_0f7a4 i0 Q) : Con l G yJ6_bitCount_0f7a4 cJ6_bitCount_0f7a4 1 (some .int) { frames := 0, cells := 0, slots := 0, locals := 0 } [.int i0] ([]) (PI (fun _ : Unit => []) (fun r _ => Q r)) 0 0 := by
  refine con_of RJ6 rfl (by decide) [(0, .int i0)] rfl (Nat.le_of_ble_eq_true rfl) ?_
  intro p e s m args below meth c S hname
  refine v_iload_n (pc2 := 1) S 0 dJ6_bitCount_0f7a4_0 rfl rfl rfl ?_
  refine v_iload_n (pc2 := 2) S 0 dJ6_bitCount_0f7a4_1 rfl rfl rfl ?_
  refine v_iconst (v := 1) (pc2 := 3) S dJ6_bitCount_0f7a4_2 (by decide) rfl ?_
  refine v_iushr (pc2 := 4) S dJ6_bitCount_0f7a4_3 rfl ?_
  refine v_ldcw (pc2 := 7) S u_314 dJ6_bitCount_0f7a4_4 rfl ?_
  refine v_iand (pc2 := 8) S dJ6_bitCount_0f7a4_7 rfl ?_
  refine v_isub (pc2 := 9) S dJ6_bitCount_0f7a4_8 rfl ?_
  refine v_nm (fun z1 ez1 => ?_)
  have hw := hw z1 ez1
  refine v_istore_n (lv2 := [(0, .int z1)]) (pc2 := 10) S dJ6_bitCount_0f7a4_9 rfl (by decide) [0] rfl rfl ?_
  refine v_iload_n (pc2 := 11) S 0 dJ6_bitCount_0f7a4_10 rfl rfl rfl ?_
  refine v_ldcw (pc2 := 14) S u_315 dJ6_bitCount_0f7a4_11 rfl ?_
  refine v_iand (pc2 := 15) S dJ6_bitCount_0f7a4_14 rfl ?_
  refine v_iload_n (pc2 := 16) S 0 dJ6_bitCount_0f7a4_15 rfl rfl rfl ?_
  refine v_iconst (v := 2) (pc2 := 17) S dJ6_bitCount_0f7a4_16 (by decide) rfl ?_
  refine v_iushr (pc2 := 18) S dJ6_bitCount_0f7a4_17 rfl ?_
  refine v_ldcw (pc2 := 21) S u_315 dJ6_bitCount_0f7a4_18 rfl ?_
  refine v_iand (pc2 := 22) S dJ6_bitCount_0f7a4_21 rfl ?_
  refine v_iadd (pc2 := 23) S dJ6_bitCount_0f7a4_22 rfl ?_
  refine v_nm (fun z2 ez2 => ?_)
  have hw := hw z2 ez2
  refine v_istore_n (lv2 := [(0, .int z2)]) (pc2 := 24) S dJ6_bitCount_0f7a4_23 rfl (by decide) [0] rfl rfl ?_
  refine v_iload_n (pc2 := 25) S 0 dJ6_bitCount_0f7a4_24 rfl rfl rfl ?_
  refine v_iload_n (pc2 := 26) S 0 dJ6_bitCount_0f7a4_25 rfl rfl rfl ?_
  refine v_iconst (v := 4) (pc2 := 27) S dJ6_bitCount_0f7a4_26 (by decide) rfl ?_
  refine v_iushr (pc2 := 28) S dJ6_bitCount_0f7a4_27 rfl ?_
  refine v_iadd (pc2 := 29) S dJ6_bitCount_0f7a4_28 rfl ?_
  refine v_ldcw (pc2 := 32) S u_316 dJ6_bitCount_0f7a4_29 rfl ?_
  refine v_iand (pc2 := 33) S dJ6_bitCount_0f7a4_32 rfl ?_
  refine v_nm (fun z3 ez3 => ?_)
  have hw := hw z3 ez3
  refine v_istore_n (lv2 := [(0, .int z3)]) (pc2 := 34) S dJ6_bitCount_0f7a4_33 rfl (by decide) [0] rfl rfl ?_
  refine v_iload_n (pc2 := 35) S 0 dJ6_bitCount_0f7a4_34 rfl rfl rfl ?_
  refine v_iload_n (pc2 := 36) S 0 dJ6_bitCount_0f7a4_35 rfl rfl rfl ?_
  refine v_bipush (v := 8) (pc2 := 38) S dJ6_bitCount_0f7a4_36 (by decide) rfl ?_
  refine v_iushr (pc2 := 39) S dJ6_bitCount_0f7a4_38 rfl ?_
  refine v_iadd (pc2 := 40) S dJ6_bitCount_0f7a4_39 rfl ?_
  refine v_nm (fun z4 ez4 => ?_)
  have hw := hw z4 ez4
  refine v_istore_n (lv2 := [(0, .int z4)]) (pc2 := 41) S dJ6_bitCount_0f7a4_40 rfl (by decide) [0] rfl rfl ?_
  refine v_iload_n (pc2 := 42) S 0 dJ6_bitCount_0f7a4_41 rfl rfl rfl ?_
  refine v_iload_n (pc2 := 43) S 0 dJ6_bitCount_0f7a4_42 rfl rfl rfl ?_
  refine v_bipush (v := 16) (pc2 := 45) S dJ6_bitCount_0f7a4_43 (by decide) rfl ?_
  refine v_iushr (pc2 := 46) S dJ6_bitCount_0f7a4_45 rfl ?_
  refine v_iadd (pc2 := 47) S dJ6_bitCount_0f7a4_46 rfl ?_
  refine v_nm (fun z5 ez5 => ?_)
  have hw := hw z5 ez5
  refine v_istore_n (lv2 := [(0, .int z5)]) (pc2 := 48) S dJ6_bitCount_0f7a4_47 rfl (by decide) [0] rfl rfl ?_
  refine v_iload_n (pc2 := 49) S 0 dJ6_bitCount_0f7a4_48 rfl rfl rfl ?_
  refine v_bipush (v := 63) (pc2 := 51) S dJ6_bitCount_0f7a4_49 (by decide) rfl ?_
  refine v_iand (pc2 := 52) S dJ6_bitCount_0f7a4_51 rfl ?_
  exact v_iret S ⟨z5 &&& (63 : Int32), (), rfl, rfl, hw⟩ dJ6_bitCount_0f7a4_52
set_option maxHeartbeats 4000000 in
set_option maxRecDepth 100000 in
theorem c_X8_has (l : Launch) (G : GG) (i0 : Int32) (i1 : Int32) (Q : Int32 → Prop) (hw : wp_X8_has i0 i1 Q) : Con l G yX8_has cX8_has 2 (some .boolean) { frames := 0, cells := 0, slots := 0, locals := 0 } [.int i0, .int i1] ([]) (PB (fun _ : Unit => []) (fun r _ => Q r)) 0 0 := by
  refine con_of RX8 rfl (by decide) [(0, .int i0), (1, .int i1)] rfl (Nat.le_of_ble_eq_true rfl) ?_
  intro p e s m args below meth c S hname
  refine v_iload_n (pc2 := 1) S 0 dX8_has_0 rfl rfl rfl ?_
  refine v_iload_n (pc2 := 2) S 1 dX8_has_1 rfl rfl rfl ?_
  refine v_ishr (pc2 := 3) S dX8_has_2 rfl ?_
  refine v_iconst (v := 1) (pc2 := 4) S dX8_has_3 (by decide) rfl ?_
  refine v_iand (pc2 := 5) S dX8_has_4 rfl ?_
  refine v_if_eq (pc2 := 8) (tgt := 12) S dX8_has_5 (by decide) rfl (fun c1 => ?_) (fun c1 => ?_)
  · have hw := hw.1 c1
    refine v_iconst (v := 0) (pc2 := 13) S dX8_has_12 (by decide) rfl ?_
    exact v_zret S (by decide) ⟨(0 : Int32), (), rfl, (by decide), rfl, hw⟩ dX8_has_13
  · have hw := hw.2 c1
    refine v_iconst (v := 1) (pc2 := 9) S dX8_has_8 (by decide) rfl ?_
    refine v_goto (tgt := 13) S dX8_has_9 (by decide) ?_
    exact v_zret S (by decide) ⟨(1 : Int32), (), rfl, (by decide), rfl, hw⟩ dX8_has_13
set_option maxHeartbeats 4000000 in
set_option maxRecDepth 100000 in
theorem c_X8_without (l : Launch) (G : GG) (i0 : Int32) (i1 : Int32) (Q : Int32 → Prop) (hw : wp_X8_without i0 i1 Q) : Con l G yX8_without cX8_without 2 (some .int) { frames := 0, cells := 0, slots := 0, locals := 0 } [.int i0, .int i1] ([]) (PI (fun _ : Unit => []) (fun r _ => Q r)) 0 0 := by
  refine con_of RX8 rfl (by decide) [(0, .int i0), (1, .int i1)] rfl (Nat.le_of_ble_eq_true rfl) ?_
  intro p e s m args below meth c S hname
  refine v_iload_n (pc2 := 1) S 0 dX8_without_0 rfl rfl rfl ?_
  refine v_iconst (v := 1) (pc2 := 2) S dX8_without_1 (by decide) rfl ?_
  refine v_iload_n (pc2 := 3) S 1 dX8_without_2 rfl rfl rfl ?_
  refine v_ishl (pc2 := 4) S dX8_without_3 rfl ?_
  refine v_iconst (v := -1) (pc2 := 5) S dX8_without_4 (by decide) rfl ?_
  refine v_ixor (pc2 := 6) S dX8_without_5 rfl ?_
  refine v_iand (pc2 := 7) S dX8_without_6 rfl ?_
  exact v_iret S ⟨i0 &&& (((1 : Int32) <<< (i1 &&& 31)) ^^^ (-1 : Int32)), (), rfl, rfl, hw⟩ dX8_without_7
set_option maxHeartbeats 4000000 in
set_option maxRecDepth 100000 in
theorem c_X3_hang (l : Launch) (G : GG) (a0 : LoomA) (v0 : LoomV) (i0 : Int32) (i1 : Int32) (i2 : Int32) (Q : LoomV → Prop) (hw : wp_X3_hang v0 i0 i1 i2 Q) : Con l G yX3_hang cX3_hang 5 none { frames := 1, cells := 0, slots := 0, locals := 21 } [.ref a0.1, .int i0, .int i1, .int i2] (wLoom G a0 v0.1 v0.2.1 v0.2.2.1 v0.2.2.2.1 v0.2.2.2.2.1 v0.2.2.2.2.2) (PV (fun u : LoomV => wLoom G a0 u.1 u.2.1 u.2.2.1 u.2.2.2.1 u.2.2.2.2.1 u.2.2.2.2.2) Q) 0 0 := by
  refine con_of RX3 rfl (by decide) [(0, .ref a0.1), (1, .int i0), (2, .int i1), (3, .int i2)] rfl (Nat.le_of_ble_eq_true rfl) ?_
  intro p e s m args below meth c S hname
  have L3 : ∀ (x1 : Int32) (x2 : Int32) (x3 : Int32) (kk : Nat) (x4 : Int32) (w0 : LoomV), wp_X3_hang_L3 x1 x2 x3 Q kk x4 w0 → V p l e { frames := 1, cells := 0, slots := 0, locals := 21 } s m args below meth c G (va_A (wLoom G a0 v0.1 v0.2.1 v0.2.2.1 v0.2.2.2.1 v0.2.2.2.2.1 v0.2.2.2.2.2) s.heap.size) 5 0 0 (MQ below (EQ G (wLoom G a0 v0.1 v0.2.1 v0.2.2.1 v0.2.2.2.1 v0.2.2.2.2.1 v0.2.2.2.2.2) s.heap.size (PV (fun u : LoomV => wLoom G a0 u.1 u.2.1 u.2.2.1 u.2.2.2.1 u.2.2.2.2.1 u.2.2.2.2.2) Q)) args s 0 0 (va_A (wLoom G a0 v0.1 v0.2.1 v0.2.2.1 v0.2.2.2.1 v0.2.2.2.2.1 v0.2.2.2.2.2) s.heap.size)) (wLoom G a0 w0.1 w0.2.1 w0.2.2.1 w0.2.2.2.1 w0.2.2.2.2.1 w0.2.2.2.2.2) 3 [(0, .ref a0.1), (1, .int x1), (2, .int x2), (3, .int x3), (4, .int x4)] [] := by
    intro x1 x2 x3 kk
    induction kk with
    | zero => intro x4 w0 hw; exact hw.elim
    | succ n ih =>
      intro x4 w0 hw
      refine v_iload (pc2 := 5) S 4 dX3_hang_3 rfl rfl ?_
      refine v_bipush (v := 6) (pc2 := 7) S dX3_hang_5 (by decide) rfl ?_
      refine v_icmp_ge (pc2 := 10) (tgt := 34) S dX3_hang_7 (by decide) rfl (fun c1 => ?_) (fun c1 => ?_)
      · have hw := hw.1 c1
        refine v_aload_n (pc2 := 35) S 0 dX3_hang_34 rfl rfl rfl ?_
        refine v_get (v := .ref a0.2.2.2.1) (pc2 := 38) S gf_X3_18 0 rfl rfl dX3_hang_35 rfl ?_
        refine v_iload_n (pc2 := 39) S 1 dX3_hang_38 rfl rfl rfl ?_
        refine v_iload_n (pc2 := 40) S 2 dX3_hang_39 rfl rfl rfl ?_
        refine v_iload_n (pc2 := 41) S 3 dX3_hang_40 rfl rfl rfl ?_
        refine v_min (pc2 := 44) S u_60 u_61 u_23 u_62 (Nat.le_of_ble_eq_true rfl) (Nat.le_of_ble_eq_true rfl) (Nat.zero_le _) (Nat.zero_le _) dX3_hang_41 rfl ?_
        obtain ⟨h2, hw⟩ := hw
        obtain ⟨g3, eg3⟩ : ∃ y : Nat → Int32, y = upd w0.2.2.1 x1.toNatClampNeg (if x3 < x2 then x3 else x2) := ⟨_, rfl⟩
        have hw := hw g3 eg3
        refine v_iast (ws2 := wLoom G a0 w0.1 w0.2.1 g3 w0.2.2.2.1 w0.2.2.2.2.1 w0.2.2.2.2.2) (pc2 := 45) S 3 rfl h2 (by rw [eg3] <;> rfl) dX3_hang_44 rfl ?_
        refine v_aload_n (pc2 := 46) S 0 dX3_hang_45 rfl rfl rfl ?_
        refine v_get (v := .ref a0.2.2.2.2.1) (pc2 := 49) S gf_X3_21 0 rfl rfl dX3_hang_46 rfl ?_
        refine v_iload_n (pc2 := 50) S 1 dX3_hang_49 rfl rfl rfl ?_
        refine v_iload_n (pc2 := 51) S 2 dX3_hang_50 rfl rfl rfl ?_
        refine v_iload_n (pc2 := 52) S 3 dX3_hang_51 rfl rfl rfl ?_
        refine v_max (pc2 := 55) S u_63 u_64 u_23 u_65 (Nat.le_of_ble_eq_true rfl) (Nat.le_of_ble_eq_true rfl) (Nat.zero_le _) (Nat.zero_le _) dX3_hang_52 rfl ?_
        obtain ⟨h4, hw⟩ := hw
        obtain ⟨g5, eg5⟩ : ∃ y : Nat → Int32, y = upd w0.2.2.2.1 x1.toNatClampNeg (if x2 < x3 then x3 else x2) := ⟨_, rfl⟩
        have hw := hw g5 eg5
        refine v_iast (ws2 := wLoom G a0 w0.1 w0.2.1 g3 g5 w0.2.2.2.2.1 w0.2.2.2.2.2) (pc2 := 56) S 4 rfl h4 (by rw [eg5] <;> rfl) dX3_hang_55 rfl ?_
        refine v_aload_n (pc2 := 57) S 0 dX3_hang_56 rfl rfl rfl ?_
        refine v_get (v := .ref a0.2.2.2.2.2) (pc2 := 60) S gf_X3_24 0 rfl rfl dX3_hang_57 rfl ?_
        refine v_iload_n (pc2 := 61) S 2 dX3_hang_60 rfl rfl rfl ?_
        refine v_dup2 (pc2 := 62) S dX3_hang_61 rfl rfl rfl ?_
        obtain ⟨h6, hw⟩ := hw
        refine v_iald (pc2 := 63) S 5 rfl h6 dX3_hang_62 rfl ?_
        refine v_iconst (v := 1) (pc2 := 64) S dX3_hang_63 (by decide) rfl ?_
        refine v_iload_n (pc2 := 65) S 1 dX3_hang_64 rfl rfl rfl ?_
        refine v_ishl (pc2 := 66) S dX3_hang_65 rfl ?_
        refine v_ior (pc2 := 67) S dX3_hang_66 rfl ?_
        obtain ⟨h7, hw⟩ := hw
        obtain ⟨g8, eg8⟩ : ∃ y : Nat → Int32, y = upd w0.2.2.2.2.1 x2.toNatClampNeg ((w0.2.2.2.2.1 x2.toNatClampNeg) ||| ((1 : Int32) <<< (x1 &&& 31))) := ⟨_, rfl⟩
        have hw := hw g8 eg8
        refine v_iast (ws2 := wLoom G a0 w0.1 w0.2.1 g3 g5 g8 w0.2.2.2.2.2) (pc2 := 68) S 5 rfl h7 (by rw [eg8] <;> rfl) dX3_hang_67 rfl ?_
        refine v_aload_n (pc2 := 69) S 0 dX3_hang_68 rfl rfl rfl ?_
        refine v_get (v := .ref a0.2.2.2.2.2) (pc2 := 72) S gf_X3_24 0 rfl rfl dX3_hang_69 rfl ?_
        refine v_iload_n (pc2 := 73) S 3 dX3_hang_72 rfl rfl rfl ?_
        refine v_dup2 (pc2 := 74) S dX3_hang_73 rfl rfl rfl ?_
        obtain ⟨h9, hw⟩ := hw
        refine v_iald (pc2 := 75) S 5 rfl h9 dX3_hang_74 rfl ?_
        refine v_iconst (v := 1) (pc2 := 76) S dX3_hang_75 (by decide) rfl ?_
        refine v_iload_n (pc2 := 77) S 1 dX3_hang_76 rfl rfl rfl ?_
        refine v_ishl (pc2 := 78) S dX3_hang_77 rfl ?_
        refine v_ior (pc2 := 79) S dX3_hang_78 rfl ?_
        obtain ⟨h10, hw⟩ := hw
        obtain ⟨g11, eg11⟩ : ∃ y : Nat → Int32, y = upd g8 x3.toNatClampNeg ((g8 x3.toNatClampNeg) ||| ((1 : Int32) <<< (x1 &&& 31))) := ⟨_, rfl⟩
        have hw := hw g11 eg11
        refine v_iast (ws2 := wLoom G a0 w0.1 w0.2.1 g3 g5 g11 w0.2.2.2.2.2) (pc2 := 80) S 5 rfl h10 (by rw [eg11] <;> rfl) dX3_hang_79 rfl ?_
        exact v_vret S ⟨(w0.1, w0.2.1, g3, g5, g11, w0.2.2.2.2.2), rfl, rfl, hw⟩ dX3_hang_80
      · have hw := hw.2 c1
        refine v_aload_n (pc2 := 11) S 0 dX3_hang_10 rfl rfl rfl ?_
        refine v_get (v := .ref a0.2.2.2.2.2) (pc2 := 14) S gf_X3_24 0 rfl rfl dX3_hang_11 rfl ?_
        refine v_iload (pc2 := 16) S 4 dX3_hang_14 rfl rfl ?_
        refine v_aload_n (pc2 := 17) S 0 dX3_hang_16 rfl rfl rfl ?_
        refine v_get (v := .ref a0.2.2.2.2.2) (pc2 := 20) S gf_X3_24 0 rfl rfl dX3_hang_17 rfl ?_
        refine v_iload (pc2 := 22) S 4 dX3_hang_20 rfl rfl ?_
        obtain ⟨h12, hw⟩ := hw
        refine v_iald (pc2 := 23) S 5 rfl h12 dX3_hang_22 rfl ?_
        refine v_iload_n (pc2 := 24) S 1 dX3_hang_23 rfl rfl rfl ?_
        refine v_callSN (pc2 := 27) (As := [.int (w0.2.2.2.2.1 x4.toNatClampNeg), .int x1]) (rest := [.int x4, .ref a0.2.2.2.2.2]) S (c_X8_without l G (w0.2.2.2.2.1 x4.toNatClampNeg) x1 _ hw) mf_X8_without u_57 u_58 rfl rfl ⟨rfl, rfl⟩ ⟨Nat.le_of_ble_eq_true rfl, Nat.le_of_ble_eq_true rfl⟩ ⟨Nat.le_of_ble_eq_true rfl, Nat.le_of_ble_eq_true rfl⟩ (Nat.le_of_ble_eq_true rfl) dX3_hang_24 (frM [] [] _) rfl (pi (fun r13 u14 hw => ?_))
        refine v_to (wLoom G a0 w0.1 w0.2.1 w0.2.2.1 w0.2.2.2.1 w0.2.2.2.2.1 w0.2.2.2.2.2) 27 [(0, .ref a0.1), (1, .int x1), (2, .int x2), (3, .int x3), (4, .int x4)] _ [.int r13, .int x4, .ref a0.2.2.2.2.2] rfl rfl rfl rfl ?_
        obtain ⟨h15, hw⟩ := hw
        obtain ⟨g16, eg16⟩ : ∃ y : Nat → Int32, y = upd w0.2.2.2.2.1 x4.toNatClampNeg r13 := ⟨_, rfl⟩
        have hw := hw g16 eg16
        refine v_iast (ws2 := wLoom G a0 w0.1 w0.2.1 w0.2.2.1 w0.2.2.2.1 g16 w0.2.2.2.2.2) (pc2 := 28) S 5 rfl h15 (by rw [eg16] <;> rfl) dX3_hang_27 rfl ?_
        obtain ⟨z17, ez17⟩ : ∃ y : Int32, y = x4 + (1 : Int32) := ⟨_, rfl⟩
        have hw := hw z17 ez17
        refine v_iinc (v := z17) (lv2 := [(0, .ref a0.1), (1, .int x1), (2, .int x2), (3, .int x3), (4, .int z17)]) (pc2 := 31) S 4 dX3_hang_28 rfl (by rw [ez17]; rfl) (by decide) [1, 2, 3, 4, 0] rfl rfl ?_
        refine v_goto (tgt := 3) S dX3_hang_31 (by decide) ?_
        exact ih z17 (w0.1, w0.2.1, w0.2.2.1, w0.2.2.2.1, g16, w0.2.2.2.2.2) hw
  refine v_iconst (v := 0) (pc2 := 1) S dX3_hang_0 (by decide) rfl ?_
  refine v_istore (lv2 := [(0, .ref a0.1), (1, .int i0), (2, .int i1), (3, .int i2), (4, .int (0 : Int32))]) (pc2 := 3) S dX3_hang_1 (by decide) [1, 2, 3, 4, 0] rfl rfl ?_
  obtain ⟨kk, hw⟩ := hw
  exact L3 i0 i1 i2 kk (0 : Int32) v0 hw
set_option maxHeartbeats 4000000 in
set_option maxRecDepth 100000 in
theorem c_X3_init (l : Launch) (G : GG) (a0 : Nat) (Q : LoomV → Prop) (hw : wp_X3_init Q) : Con l G yX3_init cX3_init 2 none { frames := 2, cells := 5, slots := 46, locals := 45 } [.ref a0] [(a0, .inr (3, [.null, .null, .null, .null, .null, .int 0]))] (PV (fun u : LoomA × LoomV => wLoom G u.1 u.2.1 u.2.2.1 u.2.2.2.1 u.2.2.2.2.1 u.2.2.2.2.2.1 u.2.2.2.2.2.2) (fun u => u.1.1 = a0 ∧ Q u.2)) 5 46 := by
  refine con_of RX3 rfl (by decide) [(0, .ref a0)] rfl (Nat.le_of_ble_eq_true rfl) ?_
  intro p e s m args below meth c S hname
  have L51 : ∀ (q1 : Nat) (q2 : Nat) (q3 : Nat) (q4 : Nat) (q5 : Nat) (kk : Nat) (x1 : Int32) (w0 : LoomV), wp_X3_init_L51 Q kk x1 w0 → V p l e { frames := 2, cells := 5, slots := 46, locals := 45 } s m args below meth c G (va_A [(a0, .inr (3, [.null, .null, .null, .null, .null, .int 0]))] s.heap.size) 2 5 46 (MQ below (EQ G [(a0, .inr (3, [.null, .null, .null, .null, .null, .int 0]))] s.heap.size (PV (fun u : LoomA × LoomV => wLoom G u.1 u.2.1 u.2.2.1 u.2.2.2.1 u.2.2.2.2.1 u.2.2.2.2.2.1 u.2.2.2.2.2.2) (fun u => u.1.1 = a0 ∧ Q u.2))) args s 5 46 (va_A [(a0, .inr (3, [.null, .null, .null, .null, .null, .int 0]))] s.heap.size)) (wLoom G (a0, q1, q2, q3, q4, q5) w0.1 w0.2.1 w0.2.2.1 w0.2.2.2.1 w0.2.2.2.2.1 w0.2.2.2.2.2) 51 [(0, .ref (((a0, q1, q2, q3, q4, q5)).1)), (1, .int x1)] [] := by
    intro q1 q2 q3 q4 q5 kk
    induction kk with
    | zero => intro x1 w0 hw; exact hw.elim
    | succ n ih =>
      intro x1 w0 hw
      refine v_iload_n (pc2 := 52) S 1 dX3_init_51 rfl rfl rfl ?_
      refine v_bipush (v := 10) (pc2 := 54) S dX3_init_52 (by decide) rfl ?_
      refine v_icmp_ge (pc2 := 57) (tgt := 102) S dX3_init_54 (by decide) rfl (fun c6 => ?_) (fun c6 => ?_)
      · have hw := hw.1 c6
        exact v_vret S ⟨((a0, q1, q2, q3, q4, q5), w0), rfl, rfl, rfl, hw⟩ dX3_init_102
      · have hw := hw.2 c6
        refine v_aload_n (pc2 := 58) S 0 dX3_init_57 rfl rfl rfl ?_
        refine v_get (v := .ref (((a0, q1, q2, q3, q4, q5)).2.1)) (pc2 := 61) S gf_X3_9 0 rfl rfl dX3_init_58 rfl ?_
        refine v_iload_n (pc2 := 62) S 1 dX3_init_61 rfl rfl rfl ?_
        refine v_iload_n (pc2 := 63) S 1 dX3_init_62 rfl rfl rfl ?_
        refine v_iconst (v := 1) (pc2 := 64) S dX3_init_63 (by decide) rfl ?_
        refine v_iadd (pc2 := 65) S dX3_init_64 rfl ?_
        refine v_bipush (v := 10) (pc2 := 67) S dX3_init_65 (by decide) rfl ?_
        refine v_irem (pc2 := 68) S (by decide) dX3_init_67 rfl ?_
        obtain ⟨h7, hw⟩ := hw
        obtain ⟨g8, eg8⟩ : ∃ y : Nat → Int32, y = upd w0.1 x1.toNatClampNeg ((x1 + (1 : Int32)) - (x1 + (1 : Int32)) / (10 : Int32) * (10 : Int32)) := ⟨_, rfl⟩
        have hw := hw g8 eg8
        refine v_iast (ws2 := wLoom G (a0, q1, q2, q3, q4, q5) g8 w0.2.1 w0.2.2.1 w0.2.2.2.1 w0.2.2.2.2.1 w0.2.2.2.2.2) (pc2 := 69) S 1 rfl h7 (by rw [eg8] <;> rfl) dX3_init_68 rfl ?_
        refine v_aload_n (pc2 := 70) S 0 dX3_init_69 rfl rfl rfl ?_
        refine v_get (v := .ref (((a0, q1, q2, q3, q4, q5)).2.2.1)) (pc2 := 73) S gf_X3_15 0 rfl rfl dX3_init_70 rfl ?_
        refine v_iload_n (pc2 := 74) S 1 dX3_init_73 rfl rfl rfl ?_
        refine v_iload_n (pc2 := 75) S 1 dX3_init_74 rfl rfl rfl ?_
        refine v_iconst (v := 3) (pc2 := 76) S dX3_init_75 (by decide) rfl ?_
        refine v_iadd (pc2 := 77) S dX3_init_76 rfl ?_
        refine v_bipush (v := 10) (pc2 := 79) S dX3_init_77 (by decide) rfl ?_
        refine v_irem (pc2 := 80) S (by decide) dX3_init_79 rfl ?_
        obtain ⟨h9, hw⟩ := hw
        obtain ⟨g10, eg10⟩ : ∃ y : Nat → Int32, y = upd w0.2.1 x1.toNatClampNeg ((x1 + (3 : Int32)) - (x1 + (3 : Int32)) / (10 : Int32) * (10 : Int32)) := ⟨_, rfl⟩
        have hw := hw g10 eg10
        refine v_iast (ws2 := wLoom G (a0, q1, q2, q3, q4, q5) g8 g10 w0.2.2.1 w0.2.2.2.1 w0.2.2.2.2.1 w0.2.2.2.2.2) (pc2 := 81) S 2 rfl h9 (by rw [eg10] <;> rfl) dX3_init_80 rfl ?_
        refine v_aload_n (pc2 := 82) S 0 dX3_init_81 rfl rfl rfl ?_
        refine v_iload_n (pc2 := 83) S 1 dX3_init_82 rfl rfl rfl ?_
        refine v_iload_n (pc2 := 84) S 1 dX3_init_83 rfl rfl rfl ?_
        refine v_bipush (v := 6) (pc2 := 86) S dX3_init_84 (by decide) rfl ?_
        refine v_irem (pc2 := 87) S (by decide) dX3_init_86 rfl ?_
        refine v_iload_n (pc2 := 88) S 1 dX3_init_87 rfl rfl rfl ?_
        refine v_iconst (v := 1) (pc2 := 89) S dX3_init_88 (by decide) rfl ?_
        refine v_iadd (pc2 := 90) S dX3_init_89 rfl ?_
        refine v_bipush (v := 6) (pc2 := 92) S dX3_init_90 (by decide) rfl ?_
        refine v_irem (pc2 := 93) S (by decide) dX3_init_92 rfl ?_
        refine v_callV (pc2 := 96) (As := [.int x1, .int (x1 - x1 / (6 : Int32) * (6 : Int32)), .int ((x1 + (1 : Int32)) - (x1 + (1 : Int32)) / (6 : Int32) * (6 : Int32))]) (rest := []) S (c_X3_hang l G (a0, q1, q2, q3, q4, q5) (g8, g10, w0.2.2.1, w0.2.2.2.1, w0.2.2.2.2.1, w0.2.2.2.2.2) x1 (x1 - x1 / (6 : Int32) * (6 : Int32)) ((x1 + (1 : Int32)) - (x1 + (1 : Int32)) / (6 : Int32) * (6 : Int32)) _ hw) mf_X3_hang u_53 u_54 u_55 0 3 rfl rfl rfl rfl ⟨rfl, rfl⟩ ⟨Nat.le_of_ble_eq_true rfl, Nat.le_of_ble_eq_true rfl⟩ ⟨Nat.le_of_ble_eq_true rfl, Nat.le_of_ble_eq_true rfl⟩ (Nat.le_of_ble_eq_true rfl) dX3_init_93 (frW _) rfl (pv (fun u12 hw => ?_))
        refine v_to (wLoom G (a0, q1, q2, q3, q4, q5) u12.1 u12.2.1 u12.2.2.1 u12.2.2.2.1 u12.2.2.2.2.1 u12.2.2.2.2.2) 96 [(0, .ref (((a0, q1, q2, q3, q4, q5)).1)), (1, .int x1)] _ [] rfl rfl rfl rfl ?_
        obtain ⟨z13, ez13⟩ : ∃ y : Int32, y = x1 + (1 : Int32) := ⟨_, rfl⟩
        have hw := hw z13 ez13
        refine v_iinc (v := z13) (lv2 := [(0, .ref (((a0, q1, q2, q3, q4, q5)).1)), (1, .int z13)]) (pc2 := 99) S 1 dX3_init_96 rfl (by rw [ez13]; rfl) (by decide) [1, 0] rfl rfl ?_
        refine v_goto (tgt := 51) S dX3_init_99 (by decide) ?_
        exact ih z13 u12 hw
  refine v_aload_n (pc2 := 1) S 0 dX3_init_0 rfl rfl rfl ?_
  refine v_objInit (pc2 := 4) S u_52 u_39 u_40 (Nat.le_of_ble_eq_true rfl) (Nat.le_of_ble_eq_true rfl) dX3_init_1 rfl ?_
  refine v_aload_n (pc2 := 5) S 0 dX3_init_4 rfl rfl rfl ?_
  refine v_bipush (v := 10) (pc2 := 7) S dX3_init_5 (by decide) rfl ?_
  refine v_newa (pc2 := 9) (N := 10) S u_86 (by decide) (by decide) (Nat.le_of_ble_eq_true rfl) (Nat.le_of_ble_eq_true rfl) (Nat.le_of_ble_eq_true rfl) dX3_init_7 rfl (fun q1 => ?_)
  refine v_to ([(a0, .inr (3, [.null, .null, .null, .null, .null, .int 0])), (q1, .inl (G.2.1, 10, .inl (fun _ => 0)))]) 9 [(0, .ref a0)] _ [.ref q1, .ref a0] rfl rfl rfl rfl ?_
  refine v_putF (ws2 := [(a0, .inr (3, [.ref q1, .null, .null, .null, .null, .int 0])), (q1, .inl (G.2.1, 10, .inl (fun _ => 0)))]) (pc2 := 12) S (show meth.name = "<init>" from hname) gf_X3_9 pf_X3_0 rfl 0 rfl rfl rfl (Nat.le_of_ble_eq_true rfl) rfl dX3_init_9 rfl ?_
  refine v_aload_n (pc2 := 13) S 0 dX3_init_12 rfl rfl rfl ?_
  refine v_bipush (v := 10) (pc2 := 15) S dX3_init_13 (by decide) rfl ?_
  refine v_newa (pc2 := 17) (N := 10) S u_86 (by decide) (by decide) (Nat.le_of_ble_eq_true rfl) (Nat.le_of_ble_eq_true rfl) (Nat.le_of_ble_eq_true rfl) dX3_init_15 rfl (fun q2 => ?_)
  refine v_to ([(a0, .inr (3, [.ref q1, .null, .null, .null, .null, .int 0])), (q1, .inl (G.2.1, 10, .inl (fun _ => 0))), (q2, .inl (G.2.1, 10, .inl (fun _ => 0)))]) 17 [(0, .ref a0)] _ [.ref q2, .ref a0] rfl rfl rfl rfl ?_
  refine v_putF (ws2 := [(a0, .inr (3, [.ref q1, .ref q2, .null, .null, .null, .int 0])), (q1, .inl (G.2.1, 10, .inl (fun _ => 0))), (q2, .inl (G.2.1, 10, .inl (fun _ => 0)))]) (pc2 := 20) S (show meth.name = "<init>" from hname) gf_X3_15 pf_X3_1 rfl 0 rfl rfl rfl (Nat.le_of_ble_eq_true rfl) rfl dX3_init_17 rfl ?_
  refine v_aload_n (pc2 := 21) S 0 dX3_init_20 rfl rfl rfl ?_
  refine v_bipush (v := 10) (pc2 := 23) S dX3_init_21 (by decide) rfl ?_
  refine v_newa (pc2 := 25) (N := 10) S u_86 (by decide) (by decide) (Nat.le_of_ble_eq_true rfl) (Nat.le_of_ble_eq_true rfl) (Nat.le_of_ble_eq_true rfl) dX3_init_23 rfl (fun q3 => ?_)
  refine v_to ([(a0, .inr (3, [.ref q1, .ref q2, .null, .null, .null, .int 0])), (q1, .inl (G.2.1, 10, .inl (fun _ => 0))), (q2, .inl (G.2.1, 10, .inl (fun _ => 0))), (q3, .inl (G.2.1, 10, .inl (fun _ => 0)))]) 25 [(0, .ref a0)] _ [.ref q3, .ref a0] rfl rfl rfl rfl ?_
  refine v_putF (ws2 := [(a0, .inr (3, [.ref q1, .ref q2, .ref q3, .null, .null, .int 0])), (q1, .inl (G.2.1, 10, .inl (fun _ => 0))), (q2, .inl (G.2.1, 10, .inl (fun _ => 0))), (q3, .inl (G.2.1, 10, .inl (fun _ => 0)))]) (pc2 := 28) S (show meth.name = "<init>" from hname) gf_X3_18 pf_X3_2 rfl 0 rfl rfl rfl (Nat.le_of_ble_eq_true rfl) rfl dX3_init_25 rfl ?_
  refine v_aload_n (pc2 := 29) S 0 dX3_init_28 rfl rfl rfl ?_
  refine v_bipush (v := 10) (pc2 := 31) S dX3_init_29 (by decide) rfl ?_
  refine v_newa (pc2 := 33) (N := 10) S u_86 (by decide) (by decide) (Nat.le_of_ble_eq_true rfl) (Nat.le_of_ble_eq_true rfl) (Nat.le_of_ble_eq_true rfl) dX3_init_31 rfl (fun q4 => ?_)
  refine v_to ([(a0, .inr (3, [.ref q1, .ref q2, .ref q3, .null, .null, .int 0])), (q1, .inl (G.2.1, 10, .inl (fun _ => 0))), (q2, .inl (G.2.1, 10, .inl (fun _ => 0))), (q3, .inl (G.2.1, 10, .inl (fun _ => 0))), (q4, .inl (G.2.1, 10, .inl (fun _ => 0)))]) 33 [(0, .ref a0)] _ [.ref q4, .ref a0] rfl rfl rfl rfl ?_
  refine v_putF (ws2 := [(a0, .inr (3, [.ref q1, .ref q2, .ref q3, .ref q4, .null, .int 0])), (q1, .inl (G.2.1, 10, .inl (fun _ => 0))), (q2, .inl (G.2.1, 10, .inl (fun _ => 0))), (q3, .inl (G.2.1, 10, .inl (fun _ => 0))), (q4, .inl (G.2.1, 10, .inl (fun _ => 0)))]) (pc2 := 36) S (show meth.name = "<init>" from hname) gf_X3_21 pf_X3_3 rfl 0 rfl rfl rfl (Nat.le_of_ble_eq_true rfl) rfl dX3_init_33 rfl ?_
  refine v_aload_n (pc2 := 37) S 0 dX3_init_36 rfl rfl rfl ?_
  refine v_bipush (v := 6) (pc2 := 39) S dX3_init_37 (by decide) rfl ?_
  refine v_newa (pc2 := 41) (N := 6) S u_86 (by decide) (by decide) (Nat.le_of_ble_eq_true rfl) (Nat.le_of_ble_eq_true rfl) (Nat.le_of_ble_eq_true rfl) dX3_init_39 rfl (fun q5 => ?_)
  refine v_to ([(a0, .inr (3, [.ref q1, .ref q2, .ref q3, .ref q4, .null, .int 0])), (q1, .inl (G.2.1, 10, .inl (fun _ => 0))), (q2, .inl (G.2.1, 10, .inl (fun _ => 0))), (q3, .inl (G.2.1, 10, .inl (fun _ => 0))), (q4, .inl (G.2.1, 10, .inl (fun _ => 0))), (q5, .inl (G.2.1, 6, .inl (fun _ => 0)))]) 41 [(0, .ref a0)] _ [.ref q5, .ref a0] rfl rfl rfl rfl ?_
  refine v_putF (ws2 := [(a0, .inr (3, [.ref q1, .ref q2, .ref q3, .ref q4, .ref q5, .int 0])), (q1, .inl (G.2.1, 10, .inl (fun _ => 0))), (q2, .inl (G.2.1, 10, .inl (fun _ => 0))), (q3, .inl (G.2.1, 10, .inl (fun _ => 0))), (q4, .inl (G.2.1, 10, .inl (fun _ => 0))), (q5, .inl (G.2.1, 6, .inl (fun _ => 0)))]) (pc2 := 44) S (show meth.name = "<init>" from hname) gf_X3_24 pf_X3_4 rfl 0 rfl rfl rfl (Nat.le_of_ble_eq_true rfl) rfl dX3_init_41 rfl ?_
  refine v_aload_n (pc2 := 45) S 0 dX3_init_44 rfl rfl rfl ?_
  refine v_iconst (v := 3) (pc2 := 46) S dX3_init_45 (by decide) rfl ?_
  refine v_put (ws2 := [(a0, .inr (3, [.ref q1, .ref q2, .ref q3, .ref q4, .ref q5, .int (3 : Int32)])), (q1, .inl (G.2.1, 10, .inl (fun _ => 0))), (q2, .inl (G.2.1, 10, .inl (fun _ => 0))), (q3, .inl (G.2.1, 10, .inl (fun _ => 0))), (q4, .inl (G.2.1, 10, .inl (fun _ => 0))), (q5, .inl (G.2.1, 6, .inl (fun _ => 0)))]) (pc2 := 49) S gf_X3_27 pf_X3_5 0 rfl rfl rfl (Nat.le_of_ble_eq_true rfl) rfl dX3_init_46 rfl ?_
  refine v_to (wLoom G (a0, q1, q2, q3, q4, q5) (fun _ => 0) (fun _ => 0) (fun _ => 0) (fun _ => 0) (fun _ => 0) (3 : Int32)) 49 [(0, .ref (((a0, q1, q2, q3, q4, q5)).1))] _ [] rfl rfl rfl rfl ?_
  refine v_iconst (v := 0) (pc2 := 50) S dX3_init_49 (by decide) rfl ?_
  refine v_istore_n (lv2 := [(0, .ref (((a0, q1, q2, q3, q4, q5)).1)), (1, .int (0 : Int32))]) (pc2 := 51) S dX3_init_50 rfl (by decide) [1, 0] rfl rfl ?_
  obtain ⟨kk, hw⟩ := hw
  exact L51 q1 q2 q3 q4 q5 kk (0 : Int32) ((fun _ => 0), (fun _ => 0), (fun _ => 0), (fun _ => 0), (fun _ => 0), (3 : Int32)) hw
set_option maxHeartbeats 4000000 in
set_option maxRecDepth 100000 in
theorem c_J9_floorMod_7cf53 (l : Launch) (G : GG) (i0 : Int32) (i1 : Int32) (Q : Int32 → Prop) (hw : wp_J9_floorMod_7cf53 i0 i1 Q) : Con l G yJ9_floorMod_7cf53 cJ9_floorMod_7cf53 3 (some .int) { frames := 0, cells := 0, slots := 0, locals := 0 } [.int i0, .int i1] ([]) (PI (fun _ : Unit => []) (fun r _ => Q r)) 0 0 := by
  refine con_ofF RJ9 rfl (by decide +kernel) [(0, .int i0), (1, .int i1)] rfl (Nat.le_of_ble_eq_true rfl) ?_
  intro p e s m args below meth c S hname
  refine v_iload_n (pc2 := 1) S 0 dJ9_floorMod_7cf53_0 rfl rfl rfl ?_
  refine v_iload_n (pc2 := 2) S 1 dJ9_floorMod_7cf53_1 rfl rfl rfl ?_
  obtain ⟨h1, hw⟩ := hw
  refine v_irem (pc2 := 3) S h1 dJ9_floorMod_7cf53_2 rfl ?_
  refine v_nm (fun z2 ez2 => ?_)
  have hw := hw z2 ez2
  refine v_istore_n (lv2 := [(0, .int i0), (1, .int i1), (2, .int z2)]) (pc2 := 4) S dJ9_floorMod_7cf53_3 rfl (by decide) [1, 2, 0] rfl rfl ?_
  refine v_iload_n (pc2 := 5) S 0 dJ9_floorMod_7cf53_4 rfl rfl rfl ?_
  refine v_iload_n (pc2 := 6) S 1 dJ9_floorMod_7cf53_5 rfl rfl rfl ?_
  refine v_ixor (pc2 := 7) S dJ9_floorMod_7cf53_6 rfl ?_
  refine v_if_ge (pc2 := 10) (tgt := 18) S dJ9_floorMod_7cf53_7 (by decide) rfl (fun c3 => ?_) (fun c3 => ?_)
  · have hw := hw.1 c3
    refine v_iload_n (pc2 := 19) S 2 dJ9_floorMod_7cf53_18 rfl rfl rfl ?_
    exact v_iret S ⟨z2, (), rfl, rfl, hw⟩ dJ9_floorMod_7cf53_19
  · have hw := hw.2 c3
    refine v_iload_n (pc2 := 11) S 2 dJ9_floorMod_7cf53_10 rfl rfl rfl ?_
    refine v_if_eq (pc2 := 14) (tgt := 18) S dJ9_floorMod_7cf53_11 (by decide) rfl (fun c4 => ?_) (fun c4 => ?_)
    · have hw := hw.1 c4
      refine v_iload_n (pc2 := 19) S 2 dJ9_floorMod_7cf53_18 rfl rfl rfl ?_
      exact v_iret S ⟨z2, (), rfl, rfl, hw⟩ dJ9_floorMod_7cf53_19
    · have hw := hw.2 c4
      refine v_iload_n (pc2 := 15) S 2 dJ9_floorMod_7cf53_14 rfl rfl rfl ?_
      refine v_iload_n (pc2 := 16) S 1 dJ9_floorMod_7cf53_15 rfl rfl rfl ?_
      refine v_iadd (pc2 := 17) S dJ9_floorMod_7cf53_16 rfl ?_
      exact v_iret S ⟨z2 + i1, (), rfl, rfl, hw⟩ dJ9_floorMod_7cf53_17
set_option maxHeartbeats 4000000 in
set_option maxRecDepth 100000 in
theorem c_X3_copy (l : Launch) (G : GG) (a0 : LoomA) (a1 : LoomA) (v0 : LoomV) (v1 : LoomV) (Q : LoomV → Prop) (hw : wp_X3_copy v0 v1 Q) : Con l G yX3_copy cX3_copy 2 none { frames := 1, cells := 0, slots := 0, locals := 60 } [.ref a0.1, .ref a1.1] (wLoom G a0 v0.1 v0.2.1 v0.2.2.1 v0.2.2.2.1 v0.2.2.2.2.1 v0.2.2.2.2.2 ++ wLoom G a1 v1.1 v1.2.1 v1.2.2.1 v1.2.2.2.1 v1.2.2.2.2.1 v1.2.2.2.2.2) (PV (fun u : LoomV => wLoom G a0 u.1 u.2.1 u.2.2.1 u.2.2.2.1 u.2.2.2.2.1 u.2.2.2.2.2 ++ wLoom G a1 v1.1 v1.2.1 v1.2.2.1 v1.2.2.2.1 v1.2.2.2.2.1 v1.2.2.2.2.2) Q) 0 0 := by
  refine con_of RX3 rfl (by decide) [(0, .ref a0.1), (1, .ref a1.1)] rfl (Nat.le_of_ble_eq_true rfl) ?_
  intro p e s m args below meth c S hname
  refine v_aload_n (pc2 := 1) S 1 dX3_copy_0 rfl rfl rfl ?_
  refine v_get (v := .ref a1.2.1) (pc2 := 4) S gf_X3_9 6 rfl rfl dX3_copy_1 rfl ?_
  refine v_iconst (v := 0) (pc2 := 5) S dX3_copy_4 (by decide) rfl ?_
  refine v_aload_n (pc2 := 6) S 0 dX3_copy_5 rfl rfl rfl ?_
  refine v_get (v := .ref a0.2.1) (pc2 := 9) S gf_X3_9 0 rfl rfl dX3_copy_6 rfl ?_
  refine v_iconst (v := 0) (pc2 := 10) S dX3_copy_9 (by decide) rfl ?_
  refine v_bipush (v := 10) (pc2 := 12) S dX3_copy_10 (by decide) rfl ?_
  obtain ⟨g1, eg1⟩ : ∃ y : Nat → Int32, y = va_cpy v1.1 v0.1 (0 : Int32).toNatClampNeg (0 : Int32).toNatClampNeg (10 : Int32).toNatClampNeg := ⟨_, rfl⟩
  have hw := hw g1 eg1
  refine v_copy (ws2 := wLoom G a0 g1 v0.2.1 v0.2.2.1 v0.2.2.2.1 v0.2.2.2.2.1 v0.2.2.2.2.2 ++ wLoom G a1 v1.1 v1.2.1 v1.2.2.1 v1.2.2.2.1 v1.2.2.2.2.1 v1.2.2.2.2.2) (pc2 := 15) S 7 1 u_447 u_449 u_448 u_30 rfl rfl (by decide) (by decide) (by decide) (by decide) (by decide) (Nat.le_of_ble_eq_true rfl) (by decide +kernel) (by rw [eg1] <;> rfl) dX3_copy_12 rfl ?_
  refine v_aload_n (pc2 := 16) S 1 dX3_copy_15 rfl rfl rfl ?_
  refine v_get (v := .ref a1.2.2.1) (pc2 := 19) S gf_X3_15 6 rfl rfl dX3_copy_16 rfl ?_
  refine v_iconst (v := 0) (pc2 := 20) S dX3_copy_19 (by decide) rfl ?_
  refine v_aload_n (pc2 := 21) S 0 dX3_copy_20 rfl rfl rfl ?_
  refine v_get (v := .ref a0.2.2.1) (pc2 := 24) S gf_X3_15 0 rfl rfl dX3_copy_21 rfl ?_
  refine v_iconst (v := 0) (pc2 := 25) S dX3_copy_24 (by decide) rfl ?_
  refine v_bipush (v := 10) (pc2 := 27) S dX3_copy_25 (by decide) rfl ?_
  obtain ⟨g2, eg2⟩ : ∃ y : Nat → Int32, y = va_cpy v1.2.1 v0.2.1 (0 : Int32).toNatClampNeg (0 : Int32).toNatClampNeg (10 : Int32).toNatClampNeg := ⟨_, rfl⟩
  have hw := hw g2 eg2
  refine v_copy (ws2 := wLoom G a0 g1 g2 v0.2.2.1 v0.2.2.2.1 v0.2.2.2.2.1 v0.2.2.2.2.2 ++ wLoom G a1 v1.1 v1.2.1 v1.2.2.1 v1.2.2.2.1 v1.2.2.2.2.1 v1.2.2.2.2.2) (pc2 := 30) S 8 2 u_447 u_449 u_448 u_30 rfl rfl (by decide) (by decide) (by decide) (by decide) (by decide) (Nat.le_of_ble_eq_true rfl) (by decide +kernel) (by rw [eg2] <;> rfl) dX3_copy_27 rfl ?_
  refine v_aload_n (pc2 := 31) S 1 dX3_copy_30 rfl rfl rfl ?_
  refine v_get (v := .ref a1.2.2.2.1) (pc2 := 34) S gf_X3_18 6 rfl rfl dX3_copy_31 rfl ?_
  refine v_iconst (v := 0) (pc2 := 35) S dX3_copy_34 (by decide) rfl ?_
  refine v_aload_n (pc2 := 36) S 0 dX3_copy_35 rfl rfl rfl ?_
  refine v_get (v := .ref a0.2.2.2.1) (pc2 := 39) S gf_X3_18 0 rfl rfl dX3_copy_36 rfl ?_
  refine v_iconst (v := 0) (pc2 := 40) S dX3_copy_39 (by decide) rfl ?_
  refine v_bipush (v := 10) (pc2 := 42) S dX3_copy_40 (by decide) rfl ?_
  obtain ⟨g3, eg3⟩ : ∃ y : Nat → Int32, y = va_cpy v1.2.2.1 v0.2.2.1 (0 : Int32).toNatClampNeg (0 : Int32).toNatClampNeg (10 : Int32).toNatClampNeg := ⟨_, rfl⟩
  have hw := hw g3 eg3
  refine v_copy (ws2 := wLoom G a0 g1 g2 g3 v0.2.2.2.1 v0.2.2.2.2.1 v0.2.2.2.2.2 ++ wLoom G a1 v1.1 v1.2.1 v1.2.2.1 v1.2.2.2.1 v1.2.2.2.2.1 v1.2.2.2.2.2) (pc2 := 45) S 9 3 u_447 u_449 u_448 u_30 rfl rfl (by decide) (by decide) (by decide) (by decide) (by decide) (Nat.le_of_ble_eq_true rfl) (by decide +kernel) (by rw [eg3] <;> rfl) dX3_copy_42 rfl ?_
  refine v_aload_n (pc2 := 46) S 1 dX3_copy_45 rfl rfl rfl ?_
  refine v_get (v := .ref a1.2.2.2.2.1) (pc2 := 49) S gf_X3_21 6 rfl rfl dX3_copy_46 rfl ?_
  refine v_iconst (v := 0) (pc2 := 50) S dX3_copy_49 (by decide) rfl ?_
  refine v_aload_n (pc2 := 51) S 0 dX3_copy_50 rfl rfl rfl ?_
  refine v_get (v := .ref a0.2.2.2.2.1) (pc2 := 54) S gf_X3_21 0 rfl rfl dX3_copy_51 rfl ?_
  refine v_iconst (v := 0) (pc2 := 55) S dX3_copy_54 (by decide) rfl ?_
  refine v_bipush (v := 10) (pc2 := 57) S dX3_copy_55 (by decide) rfl ?_
  obtain ⟨g4, eg4⟩ : ∃ y : Nat → Int32, y = va_cpy v1.2.2.2.1 v0.2.2.2.1 (0 : Int32).toNatClampNeg (0 : Int32).toNatClampNeg (10 : Int32).toNatClampNeg := ⟨_, rfl⟩
  have hw := hw g4 eg4
  refine v_copy (ws2 := wLoom G a0 g1 g2 g3 g4 v0.2.2.2.2.1 v0.2.2.2.2.2 ++ wLoom G a1 v1.1 v1.2.1 v1.2.2.1 v1.2.2.2.1 v1.2.2.2.2.1 v1.2.2.2.2.2) (pc2 := 60) S 10 4 u_447 u_449 u_448 u_30 rfl rfl (by decide) (by decide) (by decide) (by decide) (by decide) (Nat.le_of_ble_eq_true rfl) (by decide +kernel) (by rw [eg4] <;> rfl) dX3_copy_57 rfl ?_
  refine v_aload_n (pc2 := 61) S 1 dX3_copy_60 rfl rfl rfl ?_
  refine v_get (v := .ref a1.2.2.2.2.2) (pc2 := 64) S gf_X3_24 6 rfl rfl dX3_copy_61 rfl ?_
  refine v_iconst (v := 0) (pc2 := 65) S dX3_copy_64 (by decide) rfl ?_
  refine v_aload_n (pc2 := 66) S 0 dX3_copy_65 rfl rfl rfl ?_
  refine v_get (v := .ref a0.2.2.2.2.2) (pc2 := 69) S gf_X3_24 0 rfl rfl dX3_copy_66 rfl ?_
  refine v_iconst (v := 0) (pc2 := 70) S dX3_copy_69 (by decide) rfl ?_
  refine v_bipush (v := 6) (pc2 := 72) S dX3_copy_70 (by decide) rfl ?_
  obtain ⟨g5, eg5⟩ : ∃ y : Nat → Int32, y = va_cpy v1.2.2.2.2.1 v0.2.2.2.2.1 (0 : Int32).toNatClampNeg (0 : Int32).toNatClampNeg (6 : Int32).toNatClampNeg := ⟨_, rfl⟩
  have hw := hw g5 eg5
  refine v_copy (ws2 := wLoom G a0 g1 g2 g3 g4 g5 v0.2.2.2.2.2 ++ wLoom G a1 v1.1 v1.2.1 v1.2.2.1 v1.2.2.2.1 v1.2.2.2.2.1 v1.2.2.2.2.2) (pc2 := 75) S 11 5 u_447 u_449 u_448 u_30 rfl rfl (by decide) (by decide) (by decide) (by decide) (by decide) (Nat.le_of_ble_eq_true rfl) (by decide +kernel) (by rw [eg5] <;> rfl) dX3_copy_72 rfl ?_
  refine v_aload_n (pc2 := 76) S 0 dX3_copy_75 rfl rfl rfl ?_
  refine v_aload_n (pc2 := 77) S 1 dX3_copy_76 rfl rfl rfl ?_
  refine v_get (v := .int v1.2.2.2.2.2) (pc2 := 80) S gf_X3_27 6 rfl rfl dX3_copy_77 rfl ?_
  refine v_nm (fun z6 ez6 => ?_)
  have hw := hw z6 ez6
  refine v_put (ws2 := wLoom G a0 g1 g2 g3 g4 g5 z6 ++ wLoom G a1 v1.1 v1.2.1 v1.2.2.1 v1.2.2.2.1 v1.2.2.2.2.1 v1.2.2.2.2.2) (pc2 := 83) S gf_X3_27 pf_X3_5 0 rfl rfl rfl (Nat.le_of_ble_eq_true rfl) rfl dX3_copy_80 rfl ?_
  exact v_vret S ⟨(g1, g2, g3, g4, g5, z6), rfl, rfl, hw⟩ dX3_copy_83
set_option maxHeartbeats 4000000 in
set_option maxRecDepth 100000 in
theorem c_X3_lesserHall (l : Launch) (G : GG) (a0 : LoomA) (v0 : LoomV) (i0 : Int32) (Q : Int32 → Prop) (hw : wp_X3_lesserHall v0 i0 Q) : Con l G yX3_lesserHall cX3_lesserHall 2 (some .int) { frames := 0, cells := 0, slots := 0, locals := 0 } [.ref a0.1, .int i0] (wLoom G a0 v0.1 v0.2.1 v0.2.2.1 v0.2.2.2.1 v0.2.2.2.2.1 v0.2.2.2.2.2) (PI (fun _ : Unit => wLoom G a0 v0.1 v0.2.1 v0.2.2.1 v0.2.2.2.1 v0.2.2.2.2.1 v0.2.2.2.2.2) (fun r _ => Q r)) 0 0 := by
  refine con_of RX3 rfl (by decide) [(0, .ref a0.1), (1, .int i0)] rfl (Nat.le_of_ble_eq_true rfl) ?_
  intro p e s m args below meth c S hname
  refine v_aload_n (pc2 := 1) S 0 dX3_lesserHall_0 rfl rfl rfl ?_
  refine v_get (v := .ref a0.2.2.2.1) (pc2 := 4) S gf_X3_18 0 rfl rfl dX3_lesserHall_1 rfl ?_
  refine v_iload_n (pc2 := 5) S 1 dX3_lesserHall_4 rfl rfl rfl ?_
  obtain ⟨h1, hw⟩ := hw
  refine v_iald (pc2 := 6) S 3 rfl h1 dX3_lesserHall_5 rfl ?_
  exact v_iret S ⟨v0.2.2.1 i0.toNatClampNeg, (), rfl, rfl, hw⟩ dX3_lesserHall_6
set_option maxHeartbeats 4000000 in
set_option maxRecDepth 100000 in
theorem c_X3_greaterHall (l : Launch) (G : GG) (a0 : LoomA) (v0 : LoomV) (i0 : Int32) (Q : Int32 → Prop) (hw : wp_X3_greaterHall v0 i0 Q) : Con l G yX3_greaterHall cX3_greaterHall 2 (some .int) { frames := 0, cells := 0, slots := 0, locals := 0 } [.ref a0.1, .int i0] (wLoom G a0 v0.1 v0.2.1 v0.2.2.1 v0.2.2.2.1 v0.2.2.2.2.1 v0.2.2.2.2.2) (PI (fun _ : Unit => wLoom G a0 v0.1 v0.2.1 v0.2.2.1 v0.2.2.2.1 v0.2.2.2.2.1 v0.2.2.2.2.2) (fun r _ => Q r)) 0 0 := by
  refine con_of RX3 rfl (by decide) [(0, .ref a0.1), (1, .int i0)] rfl (Nat.le_of_ble_eq_true rfl) ?_
  intro p e s m args below meth c S hname
  refine v_aload_n (pc2 := 1) S 0 dX3_greaterHall_0 rfl rfl rfl ?_
  refine v_get (v := .ref a0.2.2.2.2.1) (pc2 := 4) S gf_X3_21 0 rfl rfl dX3_greaterHall_1 rfl ?_
  refine v_iload_n (pc2 := 5) S 1 dX3_greaterHall_4 rfl rfl rfl ?_
  obtain ⟨h1, hw⟩ := hw
  refine v_iald (pc2 := 6) S 4 rfl h1 dX3_greaterHall_5 rfl ?_
  exact v_iret S ⟨v0.2.2.2.1 i0.toNatClampNeg, (), rfl, rfl, hw⟩ dX3_greaterHall_6
set_option maxHeartbeats 4000000 in
set_option maxRecDepth 100000 in
theorem c_X3_joins (l : Launch) (G : GG) (a0 : LoomA) (v0 : LoomV) (i0 : Int32) (i1 : Int32) (Q : Int32 → Prop) (hw : wp_X3_joins v0 i0 i1 Q) : Con l G yX3_joins cX3_joins 3 (some .boolean) { frames := 0, cells := 0, slots := 0, locals := 0 } [.ref a0.1, .int i0, .int i1] (wLoom G a0 v0.1 v0.2.1 v0.2.2.1 v0.2.2.2.1 v0.2.2.2.2.1 v0.2.2.2.2.2) (PB (fun _ : Unit => wLoom G a0 v0.1 v0.2.1 v0.2.2.1 v0.2.2.2.1 v0.2.2.2.2.1 v0.2.2.2.2.2) (fun r _ => Q r)) 0 0 := by
  refine con_of RX3 rfl (by decide) [(0, .ref a0.1), (1, .int i0), (2, .int i1)] rfl (Nat.le_of_ble_eq_true rfl) ?_
  intro p e s m args below meth c S hname
  refine v_aload_n (pc2 := 1) S 0 dX3_joins_0 rfl rfl rfl ?_
  refine v_get (v := .ref a0.2.2.2.1) (pc2 := 4) S gf_X3_18 0 rfl rfl dX3_joins_1 rfl ?_
  refine v_iload_n (pc2 := 5) S 1 dX3_joins_4 rfl rfl rfl ?_
  obtain ⟨h1, hw⟩ := hw
  refine v_iald (pc2 := 6) S 3 rfl h1 dX3_joins_5 rfl ?_
  refine v_iload_n (pc2 := 7) S 2 dX3_joins_6 rfl rfl rfl ?_
  refine v_icmp_eq (pc2 := 10) (tgt := 20) S dX3_joins_7 (by decide) rfl (fun c2 => ?_) (fun c2 => ?_)
  · have hw := hw.1 c2
    refine v_iconst (v := 1) (pc2 := 21) S dX3_joins_20 (by decide) rfl ?_
    refine v_goto (tgt := 25) S dX3_joins_21 (by decide) ?_
    exact v_zret S (by decide) ⟨(1 : Int32), (), rfl, (by decide), rfl, hw⟩ dX3_joins_25
  · have hw := hw.2 c2
    refine v_aload_n (pc2 := 11) S 0 dX3_joins_10 rfl rfl rfl ?_
    refine v_get (v := .ref a0.2.2.2.2.1) (pc2 := 14) S gf_X3_21 0 rfl rfl dX3_joins_11 rfl ?_
    refine v_iload_n (pc2 := 15) S 1 dX3_joins_14 rfl rfl rfl ?_
    obtain ⟨h3, hw⟩ := hw
    refine v_iald (pc2 := 16) S 4 rfl h3 dX3_joins_15 rfl ?_
    refine v_iload_n (pc2 := 17) S 2 dX3_joins_16 rfl rfl rfl ?_
    refine v_icmp_ne (pc2 := 20) (tgt := 24) S dX3_joins_17 (by decide) rfl (fun c4 => ?_) (fun c4 => ?_)
    · have hw := hw.1 c4
      refine v_iconst (v := 0) (pc2 := 25) S dX3_joins_24 (by decide) rfl ?_
      exact v_zret S (by decide) ⟨(0 : Int32), (), rfl, (by decide), rfl, hw⟩ dX3_joins_25
    · have hw := hw.2 c4
      refine v_iconst (v := 1) (pc2 := 21) S dX3_joins_20 (by decide) rfl ?_
      refine v_goto (tgt := 25) S dX3_joins_21 (by decide) ?_
      exact v_zret S (by decide) ⟨(1 : Int32), (), rfl, (by decide), rfl, hw⟩ dX3_joins_25
set_option maxHeartbeats 4000000 in
set_option maxRecDepth 100000 in
theorem c_X3_otherHall (l : Launch) (G : GG) (a0 : LoomA) (v0 : LoomV) (i0 : Int32) (i1 : Int32) (Q : Int32 → Prop) (hw : wp_X3_otherHall v0 i0 i1 Q) : Con l G yX3_otherHall cX3_otherHall 3 (some .int) { frames := 0, cells := 0, slots := 0, locals := 0 } [.ref a0.1, .int i0, .int i1] (wLoom G a0 v0.1 v0.2.1 v0.2.2.1 v0.2.2.2.1 v0.2.2.2.2.1 v0.2.2.2.2.2) (PI (fun _ : Unit => wLoom G a0 v0.1 v0.2.1 v0.2.2.1 v0.2.2.2.1 v0.2.2.2.2.1 v0.2.2.2.2.2) (fun r _ => Q r)) 0 0 := by
  refine con_of RX3 rfl (by decide) [(0, .ref a0.1), (1, .int i0), (2, .int i1)] rfl (Nat.le_of_ble_eq_true rfl) ?_
  intro p e s m args below meth c S hname
  refine v_aload_n (pc2 := 1) S 0 dX3_otherHall_0 rfl rfl rfl ?_
  refine v_get (v := .ref a0.2.2.2.1) (pc2 := 4) S gf_X3_18 0 rfl rfl dX3_otherHall_1 rfl ?_
  refine v_iload_n (pc2 := 5) S 1 dX3_otherHall_4 rfl rfl rfl ?_
  obtain ⟨h1, hw⟩ := hw
  refine v_iald (pc2 := 6) S 3 rfl h1 dX3_otherHall_5 rfl ?_
  refine v_iload_n (pc2 := 7) S 2 dX3_otherHall_6 rfl rfl rfl ?_
  refine v_icmp_ne (pc2 := 10) (tgt := 19) S dX3_otherHall_7 (by decide) rfl (fun c2 => ?_) (fun c2 => ?_)
  · have hw := hw.1 c2
    refine v_aload_n (pc2 := 20) S 0 dX3_otherHall_19 rfl rfl rfl ?_
    refine v_get (v := .ref a0.2.2.2.1) (pc2 := 23) S gf_X3_18 0 rfl rfl dX3_otherHall_20 rfl ?_
    refine v_iload_n (pc2 := 24) S 1 dX3_otherHall_23 rfl rfl rfl ?_
    obtain ⟨h3, hw⟩ := hw
    refine v_iald (pc2 := 25) S 3 rfl h3 dX3_otherHall_24 rfl ?_
    exact v_iret S ⟨v0.2.2.1 i0.toNatClampNeg, (), rfl, rfl, hw⟩ dX3_otherHall_25
  · have hw := hw.2 c2
    refine v_aload_n (pc2 := 11) S 0 dX3_otherHall_10 rfl rfl rfl ?_
    refine v_get (v := .ref a0.2.2.2.2.1) (pc2 := 14) S gf_X3_21 0 rfl rfl dX3_otherHall_11 rfl ?_
    refine v_iload_n (pc2 := 15) S 1 dX3_otherHall_14 rfl rfl rfl ?_
    obtain ⟨h4, hw⟩ := hw
    refine v_iald (pc2 := 16) S 4 rfl h4 dX3_otherHall_15 rfl ?_
    refine v_goto (tgt := 25) S dX3_otherHall_16 (by decide) ?_
    exact v_iret S ⟨v0.2.2.2.1 i0.toNatClampNeg, (), rfl, rfl, hw⟩ dX3_otherHall_25
set_option maxHeartbeats 4000000 in
set_option maxRecDepth 100000 in
theorem c_X3_doorsOf (l : Launch) (G : GG) (a0 : LoomA) (v0 : LoomV) (i0 : Int32) (Q : Int32 → Prop) (hw : wp_X3_doorsOf v0 i0 Q) : Con l G yX3_doorsOf cX3_doorsOf 2 (some .int) { frames := 0, cells := 0, slots := 0, locals := 0 } [.ref a0.1, .int i0] (wLoom G a0 v0.1 v0.2.1 v0.2.2.1 v0.2.2.2.1 v0.2.2.2.2.1 v0.2.2.2.2.2) (PI (fun _ : Unit => wLoom G a0 v0.1 v0.2.1 v0.2.2.1 v0.2.2.2.1 v0.2.2.2.2.1 v0.2.2.2.2.2) (fun r _ => Q r)) 0 0 := by
  refine con_of RX3 rfl (by decide) [(0, .ref a0.1), (1, .int i0)] rfl (Nat.le_of_ble_eq_true rfl) ?_
  intro p e s m args below meth c S hname
  refine v_aload_n (pc2 := 1) S 0 dX3_doorsOf_0 rfl rfl rfl ?_
  refine v_get (v := .ref a0.2.2.2.2.2) (pc2 := 4) S gf_X3_24 0 rfl rfl dX3_doorsOf_1 rfl ?_
  refine v_iload_n (pc2 := 5) S 1 dX3_doorsOf_4 rfl rfl rfl ?_
  obtain ⟨h1, hw⟩ := hw
  refine v_iald (pc2 := 6) S 5 rfl h1 dX3_doorsOf_5 rfl ?_
  exact v_iret S ⟨v0.2.2.2.2.1 i0.toNatClampNeg, (), rfl, rfl, hw⟩ dX3_doorsOf_6
set_option maxHeartbeats 4000000 in
set_option maxRecDepth 100000 in
theorem c_X3_cordOf (l : Launch) (G : GG) (a0 : LoomA) (v0 : LoomV) (i0 : Int32) (i1 : Int32) (Q : Int32 → Prop) (hw : wp_X3_cordOf v0 i0 i1 Q) : Con l G yX3_cordOf cX3_cordOf 3 (some .int) { frames := 0, cells := 0, slots := 0, locals := 0 } [.ref a0.1, .int i0, .int i1] (wLoom G a0 v0.1 v0.2.1 v0.2.2.1 v0.2.2.2.1 v0.2.2.2.2.1 v0.2.2.2.2.2) (PI (fun _ : Unit => wLoom G a0 v0.1 v0.2.1 v0.2.2.1 v0.2.2.2.1 v0.2.2.2.2.1 v0.2.2.2.2.2) (fun r _ => Q r)) 0 0 := by
  refine con_of RX3 rfl (by decide) [(0, .ref a0.1), (1, .int i0), (2, .int i1)] rfl (Nat.le_of_ble_eq_true rfl) ?_
  intro p e s m args below meth c S hname
  refine v_iload_n (pc2 := 1) S 2 dX3_cordOf_0 rfl rfl rfl ?_
  refine v_if_eq (pc2 := 4) (tgt := 13) S dX3_cordOf_1 (by decide) rfl (fun c1 => ?_) (fun c1 => ?_)
  · have hw := hw.1 c1
    refine v_aload_n (pc2 := 14) S 0 dX3_cordOf_13 rfl rfl rfl ?_
    refine v_get (v := .ref a0.2.1) (pc2 := 17) S gf_X3_9 0 rfl rfl dX3_cordOf_14 rfl ?_
    refine v_iload_n (pc2 := 18) S 1 dX3_cordOf_17 rfl rfl rfl ?_
    obtain ⟨h2, hw⟩ := hw
    refine v_iald (pc2 := 19) S 1 rfl h2 dX3_cordOf_18 rfl ?_
    exact v_iret S ⟨v0.1 i0.toNatClampNeg, (), rfl, rfl, hw⟩ dX3_cordOf_19
  · have hw := hw.2 c1
    refine v_aload_n (pc2 := 5) S 0 dX3_cordOf_4 rfl rfl rfl ?_
    refine v_get (v := .ref a0.2.2.1) (pc2 := 8) S gf_X3_15 0 rfl rfl dX3_cordOf_5 rfl ?_
    refine v_iload_n (pc2 := 9) S 1 dX3_cordOf_8 rfl rfl rfl ?_
    obtain ⟨h3, hw⟩ := hw
    refine v_iald (pc2 := 10) S 2 rfl h3 dX3_cordOf_9 rfl ?_
    refine v_goto (tgt := 19) S dX3_cordOf_10 (by decide) ?_
    exact v_iret S ⟨v0.2.1 i0.toNatClampNeg, (), rfl, rfl, hw⟩ dX3_cordOf_19
set_option maxHeartbeats 4000000 in
set_option maxRecDepth 100000 in
theorem c_X3_layCord (l : Launch) (G : GG) (a0 : LoomA) (v0 : LoomV) (i0 : Int32) (i1 : Int32) (i2 : Int32) (Q : LoomV → Prop) (hw : wp_X3_layCord v0 i0 i1 i2 Q) : Con l G yX3_layCord cX3_layCord 4 none { frames := 0, cells := 0, slots := 0, locals := 0 } [.ref a0.1, .int i0, .int i1, .int i2] (wLoom G a0 v0.1 v0.2.1 v0.2.2.1 v0.2.2.2.1 v0.2.2.2.2.1 v0.2.2.2.2.2) (PV (fun u : LoomV => wLoom G a0 u.1 u.2.1 u.2.2.1 u.2.2.2.1 u.2.2.2.2.1 u.2.2.2.2.2) Q) 0 0 := by
  refine con_of RX3 rfl (by decide) [(0, .ref a0.1), (1, .int i0), (2, .int i1), (3, .int i2)] rfl (Nat.le_of_ble_eq_true rfl) ?_
  intro p e s m args below meth c S hname
  refine v_iload_n (pc2 := 1) S 2 dX3_layCord_0 rfl rfl rfl ?_
  refine v_if_eq (pc2 := 4) (tgt := 14) S dX3_layCord_1 (by decide) rfl (fun c1 => ?_) (fun c1 => ?_)
  · have hw := hw.1 c1
    refine v_aload_n (pc2 := 15) S 0 dX3_layCord_14 rfl rfl rfl ?_
    refine v_get (v := .ref a0.2.1) (pc2 := 18) S gf_X3_9 0 rfl rfl dX3_layCord_15 rfl ?_
    refine v_iload_n (pc2 := 19) S 1 dX3_layCord_18 rfl rfl rfl ?_
    refine v_iload_n (pc2 := 20) S 3 dX3_layCord_19 rfl rfl rfl ?_
    obtain ⟨h2, hw⟩ := hw
    obtain ⟨g3, eg3⟩ : ∃ y : Nat → Int32, y = upd v0.1 i0.toNatClampNeg i2 := ⟨_, rfl⟩
    have hw := hw g3 eg3
    refine v_iast (ws2 := wLoom G a0 g3 v0.2.1 v0.2.2.1 v0.2.2.2.1 v0.2.2.2.2.1 v0.2.2.2.2.2) (pc2 := 21) S 1 rfl h2 (by rw [eg3] <;> rfl) dX3_layCord_20 rfl ?_
    exact v_vret S ⟨(g3, v0.2.1, v0.2.2.1, v0.2.2.2.1, v0.2.2.2.2.1, v0.2.2.2.2.2), rfl, rfl, hw⟩ dX3_layCord_21
  · have hw := hw.2 c1
    refine v_aload_n (pc2 := 5) S 0 dX3_layCord_4 rfl rfl rfl ?_
    refine v_get (v := .ref a0.2.2.1) (pc2 := 8) S gf_X3_15 0 rfl rfl dX3_layCord_5 rfl ?_
    refine v_iload_n (pc2 := 9) S 1 dX3_layCord_8 rfl rfl rfl ?_
    refine v_iload_n (pc2 := 10) S 3 dX3_layCord_9 rfl rfl rfl ?_
    obtain ⟨h4, hw⟩ := hw
    obtain ⟨g5, eg5⟩ : ∃ y : Nat → Int32, y = upd v0.2.1 i0.toNatClampNeg i2 := ⟨_, rfl⟩
    have hw := hw g5 eg5
    refine v_iast (ws2 := wLoom G a0 v0.1 g5 v0.2.2.1 v0.2.2.2.1 v0.2.2.2.2.1 v0.2.2.2.2.2) (pc2 := 11) S 2 rfl h4 (by rw [eg5] <;> rfl) dX3_layCord_10 rfl ?_
    refine v_goto (tgt := 21) S dX3_layCord_11 (by decide) ?_
    exact v_vret S ⟨(v0.1, g5, v0.2.2.1, v0.2.2.2.1, v0.2.2.2.2.1, v0.2.2.2.2.2), rfl, rfl, hw⟩ dX3_layCord_21
set_option maxHeartbeats 4000000 in
set_option maxRecDepth 100000 in
theorem c_X3_targetsOf (l : Launch) (G : GG) (a0 : LoomA) (v0 : LoomV) (i0 : Int32) (Q : Int32 → Prop) (hw : wp_X3_targetsOf v0 i0 Q) : Con l G yX3_targetsOf cX3_targetsOf 2 (some .int) { frames := 0, cells := 0, slots := 0, locals := 0 } [.ref a0.1, .int i0] (wLoom G a0 v0.1 v0.2.1 v0.2.2.1 v0.2.2.2.1 v0.2.2.2.2.1 v0.2.2.2.2.2) (PI (fun _ : Unit => wLoom G a0 v0.1 v0.2.1 v0.2.2.1 v0.2.2.2.1 v0.2.2.2.2.1 v0.2.2.2.2.2) (fun r _ => Q r)) 0 0 := by
  refine con_of RX3 rfl (by decide) [(0, .ref a0.1), (1, .int i0)] rfl (Nat.le_of_ble_eq_true rfl) ?_
  intro p e s m args below meth c S hname
  refine v_iconst (v := 1) (pc2 := 1) S dX3_targetsOf_0 (by decide) rfl ?_
  refine v_aload_n (pc2 := 2) S 0 dX3_targetsOf_1 rfl rfl rfl ?_
  refine v_get (v := .ref a0.2.1) (pc2 := 5) S gf_X3_9 0 rfl rfl dX3_targetsOf_2 rfl ?_
  refine v_iload_n (pc2 := 6) S 1 dX3_targetsOf_5 rfl rfl rfl ?_
  obtain ⟨h1, hw⟩ := hw
  refine v_iald (pc2 := 7) S 1 rfl h1 dX3_targetsOf_6 rfl ?_
  refine v_ishl (pc2 := 8) S dX3_targetsOf_7 rfl ?_
  refine v_iconst (v := 1) (pc2 := 9) S dX3_targetsOf_8 (by decide) rfl ?_
  refine v_aload_n (pc2 := 10) S 0 dX3_targetsOf_9 rfl rfl rfl ?_
  refine v_get (v := .ref a0.2.2.1) (pc2 := 13) S gf_X3_15 0 rfl rfl dX3_targetsOf_10 rfl ?_
  refine v_iload_n (pc2 := 14) S 1 dX3_targetsOf_13 rfl rfl rfl ?_
  obtain ⟨h2, hw⟩ := hw
  refine v_iald (pc2 := 15) S 2 rfl h2 dX3_targetsOf_14 rfl ?_
  refine v_ishl (pc2 := 16) S dX3_targetsOf_15 rfl ?_
  refine v_ior (pc2 := 17) S dX3_targetsOf_16 rfl ?_
  refine v_sipush (v := 1023) (pc2 := 20) S dX3_targetsOf_17 (by decide) rfl ?_
  refine v_iand (pc2 := 21) S dX3_targetsOf_20 rfl ?_
  exact v_iret S ⟨(((1 : Int32) <<< ((v0.1 i0.toNatClampNeg) &&& 31)) ||| ((1 : Int32) <<< ((v0.2.1 i0.toNatClampNeg) &&& 31))) &&& (1023 : Int32), (), rfl, rfl, hw⟩ dX3_targetsOf_21
set_option maxHeartbeats 4000000 in
set_option maxRecDepth 100000 in
theorem c_X3_heldBy (l : Launch) (G : GG) (a0 : LoomA) (v0 : LoomV) (i0 : Int32) (Q : Int32 → Prop) (hw : wp_X3_heldBy v0 i0 Q) : Con l G yX3_heldBy cX3_heldBy 4 (some .int) { frames := 1, cells := 0, slots := 0, locals := 21 } [.ref a0.1, .int i0] (wLoom G a0 v0.1 v0.2.1 v0.2.2.1 v0.2.2.2.1 v0.2.2.2.2.1 v0.2.2.2.2.2) (PI (fun _ : Unit => wLoom G a0 v0.1 v0.2.1 v0.2.2.1 v0.2.2.2.1 v0.2.2.2.2.1 v0.2.2.2.2.2) (fun r _ => Q r)) 0 0 := by
  refine con_of RX3 rfl (by decide) [(0, .ref a0.1), (1, .int i0)] rfl (Nat.le_of_ble_eq_true rfl) ?_
  intro p e s m args below meth c S hname
  have L4 : ∀ (x1 : Int32) (kk : Nat) (x2 : Int32) (x3 : Int32), wp_X3_heldBy_L4 v0 x1 Q kk x2 x3 → V p l e { frames := 1, cells := 0, slots := 0, locals := 21 } s m args below meth c G (va_A (wLoom G a0 v0.1 v0.2.1 v0.2.2.1 v0.2.2.2.1 v0.2.2.2.2.1 v0.2.2.2.2.2) s.heap.size) 4 0 0 (MQ below (EQ G (wLoom G a0 v0.1 v0.2.1 v0.2.2.1 v0.2.2.2.1 v0.2.2.2.2.1 v0.2.2.2.2.2) s.heap.size (PI (fun _ : Unit => wLoom G a0 v0.1 v0.2.1 v0.2.2.1 v0.2.2.2.1 v0.2.2.2.2.1 v0.2.2.2.2.2) (fun r _ => Q r))) args s 0 0 (va_A (wLoom G a0 v0.1 v0.2.1 v0.2.2.1 v0.2.2.2.1 v0.2.2.2.2.1 v0.2.2.2.2.2) s.heap.size)) (wLoom G a0 v0.1 v0.2.1 v0.2.2.1 v0.2.2.2.1 v0.2.2.2.2.1 v0.2.2.2.2.2) 4 [(0, .ref a0.1), (1, .int x1), (2, .int x2), (3, .int x3)] [] := by
    intro x1 kk
    induction kk with
    | zero => intro x2 x3 hw; exact hw.elim
    | succ n ih =>
      intro x2 x3 hw
      refine v_iload_n (pc2 := 5) S 3 dX3_heldBy_4 rfl rfl rfl ?_
      refine v_bipush (v := 10) (pc2 := 7) S dX3_heldBy_5 (by decide) rfl ?_
      refine v_icmp_ge (pc2 := 10) (tgt := 32) S dX3_heldBy_7 (by decide) rfl (fun c1 => ?_) (fun c1 => ?_)
      · have hw := hw.1 c1
        refine v_iload_n (pc2 := 33) S 2 dX3_heldBy_32 rfl rfl rfl ?_
        exact v_iret S ⟨x2, (), rfl, rfl, hw⟩ dX3_heldBy_33
      · have hw := hw.2 c1
        refine v_iload_n (pc2 := 11) S 1 dX3_heldBy_10 rfl rfl rfl ?_
        refine v_iload_n (pc2 := 12) S 3 dX3_heldBy_11 rfl rfl rfl ?_
        refine v_callSN (pc2 := 15) (As := [.int x1, .int x3]) (rest := []) S (c_X8_has l G x1 x3 _ hw) mf_X8_has u_290 u_276 rfl rfl ⟨rfl, rfl⟩ ⟨Nat.le_of_ble_eq_true rfl, Nat.le_of_ble_eq_true rfl⟩ ⟨Nat.le_of_ble_eq_true rfl, Nat.le_of_ble_eq_true rfl⟩ (Nat.le_of_ble_eq_true rfl) dX3_heldBy_12 (frM [] [] _) rfl (pb (fun r2 u3 br2 hw => ?_))
        refine v_to (wLoom G a0 v0.1 v0.2.1 v0.2.2.1 v0.2.2.2.1 v0.2.2.2.2.1 v0.2.2.2.2.2) 15 [(0, .ref a0.1), (1, .int x1), (2, .int x2), (3, .int x3)] _ [.int r2] rfl rfl rfl rfl ?_
        refine v_if_eq (pc2 := 18) (tgt := 26) S dX3_heldBy_15 (by decide) rfl (fun c4 => ?_) (fun c4 => ?_)
        · have hw := hw.1 c4
          obtain ⟨z5, ez5⟩ : ∃ y : Int32, y = x3 + (1 : Int32) := ⟨_, rfl⟩
          have hw := hw z5 ez5
          refine v_iinc (v := z5) (lv2 := [(0, .ref a0.1), (1, .int x1), (2, .int x2), (3, .int z5)]) (pc2 := 29) S 3 dX3_heldBy_26 rfl (by rw [ez5]; rfl) (by decide) [1, 2, 3, 0] rfl rfl ?_
          refine v_goto (tgt := 4) S dX3_heldBy_29 (by decide) ?_
          exact ih x2 z5 hw
        · have hw := hw.2 c4
          refine v_iload_n (pc2 := 19) S 2 dX3_heldBy_18 rfl rfl rfl ?_
          refine v_aload_n (pc2 := 20) S 0 dX3_heldBy_19 rfl rfl rfl ?_
          refine v_iload_n (pc2 := 21) S 3 dX3_heldBy_20 rfl rfl rfl ?_
          refine v_callV (pc2 := 24) (As := [.int x3]) (rest := [.int x2]) S (c_X3_targetsOf l G a0 v0 x3 _ hw) mf_X3_targetsOf u_291 u_292 u_293 0 3 rfl rfl rfl rfl ⟨rfl, rfl⟩ ⟨Nat.le_of_ble_eq_true rfl, Nat.le_of_ble_eq_true rfl⟩ ⟨Nat.le_of_ble_eq_true rfl, Nat.le_of_ble_eq_true rfl⟩ (Nat.le_of_ble_eq_true rfl) dX3_heldBy_21 (frW _) rfl (pi (fun r6 u7 hw => ?_))
          refine v_to (wLoom G a0 v0.1 v0.2.1 v0.2.2.1 v0.2.2.2.1 v0.2.2.2.2.1 v0.2.2.2.2.2) 24 [(0, .ref a0.1), (1, .int x1), (2, .int x2), (3, .int x3)] _ [.int r6, .int x2] rfl rfl rfl rfl ?_
          refine v_ior (pc2 := 25) S dX3_heldBy_24 rfl ?_
          refine v_nm (fun z8 ez8 => ?_)
          have hw := hw z8 ez8
          refine v_istore_n (lv2 := [(0, .ref a0.1), (1, .int x1), (2, .int z8), (3, .int x3)]) (pc2 := 26) S dX3_heldBy_25 rfl (by decide) [1, 2, 0, 3] rfl rfl ?_
          obtain ⟨z9, ez9⟩ : ∃ y : Int32, y = x3 + (1 : Int32) := ⟨_, rfl⟩
          have hw := hw z9 ez9
          refine v_iinc (v := z9) (lv2 := [(0, .ref a0.1), (1, .int x1), (2, .int z8), (3, .int z9)]) (pc2 := 29) S 3 dX3_heldBy_26 rfl (by rw [ez9]; rfl) (by decide) [1, 2, 3, 0] rfl rfl ?_
          refine v_goto (tgt := 4) S dX3_heldBy_29 (by decide) ?_
          exact ih z8 z9 hw
  refine v_iconst (v := 0) (pc2 := 1) S dX3_heldBy_0 (by decide) rfl ?_
  refine v_istore_n (lv2 := [(0, .ref a0.1), (1, .int i0), (2, .int (0 : Int32))]) (pc2 := 2) S dX3_heldBy_1 rfl (by decide) [1, 2, 0] rfl rfl ?_
  refine v_iconst (v := 0) (pc2 := 3) S dX3_heldBy_2 (by decide) rfl ?_
  refine v_istore_n (lv2 := [(0, .ref a0.1), (1, .int i0), (2, .int (0 : Int32)), (3, .int (0 : Int32))]) (pc2 := 4) S dX3_heldBy_3 rfl (by decide) [1, 2, 3, 0] rfl rfl ?_
  obtain ⟨kk, hw⟩ := hw
  exact L4 i0 kk (0 : Int32) (0 : Int32) hw
set_option maxHeartbeats 4000000 in
set_option maxRecDepth 100000 in
theorem c_X3_cordsOf (l : Launch) (G : GG) (a0 : LoomA) (v0 : LoomV) (i0 : Int32) (Q : Int32 → Prop) (hw : wp_X3_cordsOf v0 i0 Q) : Con l G yX3_cordsOf cX3_cordsOf 4 (some .int) { frames := 1, cells := 0, slots := 0, locals := 21 } [.ref a0.1, .int i0] (wLoom G a0 v0.1 v0.2.1 v0.2.2.1 v0.2.2.2.1 v0.2.2.2.2.1 v0.2.2.2.2.2) (PI (fun _ : Unit => wLoom G a0 v0.1 v0.2.1 v0.2.2.1 v0.2.2.2.1 v0.2.2.2.2.1 v0.2.2.2.2.2) (fun r _ => Q r)) 0 0 := by
  refine con_of RX3 rfl (by decide) [(0, .ref a0.1), (1, .int i0)] rfl (Nat.le_of_ble_eq_true rfl) ?_
  intro p e s m args below meth c S hname
  have L4 : ∀ (x1 : Int32) (kk : Nat) (x2 : Int32) (x3 : Int32), wp_X3_cordsOf_L4 v0 x1 Q kk x2 x3 → V p l e { frames := 1, cells := 0, slots := 0, locals := 21 } s m args below meth c G (va_A (wLoom G a0 v0.1 v0.2.1 v0.2.2.1 v0.2.2.2.1 v0.2.2.2.2.1 v0.2.2.2.2.2) s.heap.size) 4 0 0 (MQ below (EQ G (wLoom G a0 v0.1 v0.2.1 v0.2.2.1 v0.2.2.2.1 v0.2.2.2.2.1 v0.2.2.2.2.2) s.heap.size (PI (fun _ : Unit => wLoom G a0 v0.1 v0.2.1 v0.2.2.1 v0.2.2.2.1 v0.2.2.2.2.1 v0.2.2.2.2.2) (fun r _ => Q r))) args s 0 0 (va_A (wLoom G a0 v0.1 v0.2.1 v0.2.2.1 v0.2.2.2.1 v0.2.2.2.2.1 v0.2.2.2.2.2) s.heap.size)) (wLoom G a0 v0.1 v0.2.1 v0.2.2.1 v0.2.2.2.1 v0.2.2.2.2.1 v0.2.2.2.2.2) 4 [(0, .ref a0.1), (1, .int x1), (2, .int x2), (3, .int x3)] [] := by
    intro x1 kk
    induction kk with
    | zero => intro x2 x3 hw; exact hw.elim
    | succ n ih =>
      intro x2 x3 hw
      refine v_iload_n (pc2 := 5) S 3 dX3_cordsOf_4 rfl rfl rfl ?_
      refine v_bipush (v := 10) (pc2 := 7) S dX3_cordsOf_5 (by decide) rfl ?_
      refine v_icmp_ge (pc2 := 10) (tgt := 35) S dX3_cordsOf_7 (by decide) rfl (fun c1 => ?_) (fun c1 => ?_)
      · have hw := hw.1 c1
        refine v_iload_n (pc2 := 36) S 2 dX3_cordsOf_35 rfl rfl rfl ?_
        exact v_iret S ⟨x2, (), rfl, rfl, hw⟩ dX3_cordsOf_36
      · have hw := hw.2 c1
        refine v_iload_n (pc2 := 11) S 1 dX3_cordsOf_10 rfl rfl rfl ?_
        refine v_iload_n (pc2 := 12) S 3 dX3_cordsOf_11 rfl rfl rfl ?_
        refine v_callSN (pc2 := 15) (As := [.int x1, .int x3]) (rest := []) S (c_X8_has l G x1 x3 _ hw) mf_X8_has u_290 u_276 rfl rfl ⟨rfl, rfl⟩ ⟨Nat.le_of_ble_eq_true rfl, Nat.le_of_ble_eq_true rfl⟩ ⟨Nat.le_of_ble_eq_true rfl, Nat.le_of_ble_eq_true rfl⟩ (Nat.le_of_ble_eq_true rfl) dX3_cordsOf_12 (frM [] [] _) rfl (pb (fun r2 u3 br2 hw => ?_))
        refine v_to (wLoom G a0 v0.1 v0.2.1 v0.2.2.1 v0.2.2.2.1 v0.2.2.2.2.1 v0.2.2.2.2.2) 15 [(0, .ref a0.1), (1, .int x1), (2, .int x2), (3, .int x3)] _ [.int r2] rfl rfl rfl rfl ?_
        refine v_if_eq (pc2 := 18) (tgt := 29) S dX3_cordsOf_15 (by decide) rfl (fun c4 => ?_) (fun c4 => ?_)
        · have hw := hw.1 c4
          obtain ⟨z5, ez5⟩ : ∃ y : Int32, y = x3 + (1 : Int32) := ⟨_, rfl⟩
          have hw := hw z5 ez5
          refine v_iinc (v := z5) (lv2 := [(0, .ref a0.1), (1, .int x1), (2, .int x2), (3, .int z5)]) (pc2 := 32) S 3 dX3_cordsOf_29 rfl (by rw [ez5]; rfl) (by decide) [1, 2, 3, 0] rfl rfl ?_
          refine v_goto (tgt := 4) S dX3_cordsOf_32 (by decide) ?_
          exact ih x2 z5 hw
        · have hw := hw.2 c4
          refine v_iload_n (pc2 := 19) S 2 dX3_cordsOf_18 rfl rfl rfl ?_
          refine v_aload_n (pc2 := 20) S 0 dX3_cordsOf_19 rfl rfl rfl ?_
          refine v_iload_n (pc2 := 21) S 3 dX3_cordsOf_20 rfl rfl rfl ?_
          refine v_callV (pc2 := 24) (As := [.int x3]) (rest := [.int x2]) S (c_X3_targetsOf l G a0 v0 x3 _ hw) mf_X3_targetsOf u_291 u_292 u_293 0 3 rfl rfl rfl rfl ⟨rfl, rfl⟩ ⟨Nat.le_of_ble_eq_true rfl, Nat.le_of_ble_eq_true rfl⟩ ⟨Nat.le_of_ble_eq_true rfl, Nat.le_of_ble_eq_true rfl⟩ (Nat.le_of_ble_eq_true rfl) dX3_cordsOf_21 (frW _) rfl (pi (fun r6 u7 hw => ?_))
          refine v_to (wLoom G a0 v0.1 v0.2.1 v0.2.2.1 v0.2.2.2.1 v0.2.2.2.2.1 v0.2.2.2.2.2) 24 [(0, .ref a0.1), (1, .int x1), (2, .int x2), (3, .int x3)] _ [.int r6, .int x2] rfl rfl rfl rfl ?_
          refine v_callS (pc2 := 27) (As := [.int r6]) (rest := [.int x2]) S (c_J6_bitCount_0f7a4 l G r6 _ hw) mf_J6_bitCount_0f7a4 u_311 u_312 rfl rfl ⟨rfl, rfl⟩ ⟨Nat.le_of_ble_eq_true rfl, Nat.le_of_ble_eq_true rfl⟩ ⟨Nat.le_of_ble_eq_true rfl, Nat.le_of_ble_eq_true rfl⟩ (Nat.le_of_ble_eq_true rfl) dX3_cordsOf_24 (frM [] [] _) rfl (pi (fun r8 u9 hw => ?_))
          refine v_to (wLoom G a0 v0.1 v0.2.1 v0.2.2.1 v0.2.2.2.1 v0.2.2.2.2.1 v0.2.2.2.2.2) 27 [(0, .ref a0.1), (1, .int x1), (2, .int x2), (3, .int x3)] _ [.int r8, .int x2] rfl rfl rfl rfl ?_
          refine v_iadd (pc2 := 28) S dX3_cordsOf_27 rfl ?_
          refine v_nm (fun z10 ez10 => ?_)
          have hw := hw z10 ez10
          refine v_istore_n (lv2 := [(0, .ref a0.1), (1, .int x1), (2, .int z10), (3, .int x3)]) (pc2 := 29) S dX3_cordsOf_28 rfl (by decide) [1, 2, 0, 3] rfl rfl ?_
          obtain ⟨z11, ez11⟩ : ∃ y : Int32, y = x3 + (1 : Int32) := ⟨_, rfl⟩
          have hw := hw z11 ez11
          refine v_iinc (v := z11) (lv2 := [(0, .ref a0.1), (1, .int x1), (2, .int z10), (3, .int z11)]) (pc2 := 32) S 3 dX3_cordsOf_29 rfl (by rw [ez11]; rfl) (by decide) [1, 2, 3, 0] rfl rfl ?_
          refine v_goto (tgt := 4) S dX3_cordsOf_32 (by decide) ?_
          exact ih z10 z11 hw
  refine v_iconst (v := 0) (pc2 := 1) S dX3_cordsOf_0 (by decide) rfl ?_
  refine v_istore_n (lv2 := [(0, .ref a0.1), (1, .int i0), (2, .int (0 : Int32))]) (pc2 := 2) S dX3_cordsOf_1 rfl (by decide) [1, 2, 0] rfl rfl ?_
  refine v_iconst (v := 0) (pc2 := 3) S dX3_cordsOf_2 (by decide) rfl ?_
  refine v_istore_n (lv2 := [(0, .ref a0.1), (1, .int i0), (2, .int (0 : Int32)), (3, .int (0 : Int32))]) (pc2 := 4) S dX3_cordsOf_3 rfl (by decide) [1, 2, 3, 0] rfl rfl ?_
  obtain ⟨kk, hw⟩ := hw
  exact L4 i0 kk (0 : Int32) (0 : Int32) hw
set_option maxHeartbeats 4000000 in
set_option maxRecDepth 100000 in
theorem c_X3_cordsTo (l : Launch) (G : GG) (a0 : LoomA) (v0 : LoomV) (i0 : Int32) (i1 : Int32) (Q : Int32 → Prop) (hw : wp_X3_cordsTo v0 i0 i1 Q) : Con l G yX3_cordsTo cX3_cordsTo 5 (some .int) { frames := 1, cells := 0, slots := 0, locals := 21 } [.ref a0.1, .int i0, .int i1] (wLoom G a0 v0.1 v0.2.1 v0.2.2.1 v0.2.2.2.1 v0.2.2.2.2.1 v0.2.2.2.2.2) (PI (fun _ : Unit => wLoom G a0 v0.1 v0.2.1 v0.2.2.1 v0.2.2.2.1 v0.2.2.2.2.1 v0.2.2.2.2.2) (fun r _ => Q r)) 0 0 := by
  refine con_of RX3 rfl (by decide) [(0, .ref a0.1), (1, .int i0), (2, .int i1)] rfl (Nat.le_of_ble_eq_true rfl) ?_
  intro p e s m args below meth c S hname
  have L5 : ∀ (x1 : Int32) (x2 : Int32) (kk : Nat) (x3 : Int32) (x4 : Int32), wp_X3_cordsTo_L5 v0 x1 x2 Q kk x3 x4 → V p l e { frames := 1, cells := 0, slots := 0, locals := 21 } s m args below meth c G (va_A (wLoom G a0 v0.1 v0.2.1 v0.2.2.1 v0.2.2.2.1 v0.2.2.2.2.1 v0.2.2.2.2.2) s.heap.size) 5 0 0 (MQ below (EQ G (wLoom G a0 v0.1 v0.2.1 v0.2.2.1 v0.2.2.2.1 v0.2.2.2.2.1 v0.2.2.2.2.2) s.heap.size (PI (fun _ : Unit => wLoom G a0 v0.1 v0.2.1 v0.2.2.1 v0.2.2.2.1 v0.2.2.2.2.1 v0.2.2.2.2.2) (fun r _ => Q r))) args s 0 0 (va_A (wLoom G a0 v0.1 v0.2.1 v0.2.2.1 v0.2.2.2.1 v0.2.2.2.2.1 v0.2.2.2.2.2) s.heap.size)) (wLoom G a0 v0.1 v0.2.1 v0.2.2.1 v0.2.2.2.1 v0.2.2.2.2.1 v0.2.2.2.2.2) 5 [(0, .ref a0.1), (1, .int x1), (2, .int x2), (3, .int x3), (4, .int x4)] [] := by
    intro x1 x2 kk
    induction kk with
    | zero => intro x3 x4 hw; exact hw.elim
    | succ n ih =>
      intro x3 x4 hw
      refine v_iload (pc2 := 7) S 4 dX3_cordsTo_5 rfl rfl ?_
      refine v_bipush (v := 10) (pc2 := 9) S dX3_cordsTo_7 (by decide) rfl ?_
      refine v_icmp_ge (pc2 := 12) (tgt := 43) S dX3_cordsTo_9 (by decide) rfl (fun c1 => ?_) (fun c1 => ?_)
      · have hw := hw.1 c1
        refine v_iload_n (pc2 := 44) S 3 dX3_cordsTo_43 rfl rfl rfl ?_
        exact v_iret S ⟨x3, (), rfl, rfl, hw⟩ dX3_cordsTo_44
      · have hw := hw.2 c1
        refine v_iload_n (pc2 := 13) S 2 dX3_cordsTo_12 rfl rfl rfl ?_
        refine v_iload (pc2 := 15) S 4 dX3_cordsTo_13 rfl rfl ?_
        refine v_callSN (pc2 := 18) (As := [.int x2, .int x4]) (rest := []) S (c_X8_has l G x2 x4 _ hw) mf_X8_has u_290 u_276 rfl rfl ⟨rfl, rfl⟩ ⟨Nat.le_of_ble_eq_true rfl, Nat.le_of_ble_eq_true rfl⟩ ⟨Nat.le_of_ble_eq_true rfl, Nat.le_of_ble_eq_true rfl⟩ (Nat.le_of_ble_eq_true rfl) dX3_cordsTo_15 (frM [] [] _) rfl (pb (fun r2 u3 br2 hw => ?_))
        refine v_to (wLoom G a0 v0.1 v0.2.1 v0.2.2.1 v0.2.2.2.1 v0.2.2.2.2.1 v0.2.2.2.2.2) 18 [(0, .ref a0.1), (1, .int x1), (2, .int x2), (3, .int x3), (4, .int x4)] _ [.int r2] rfl rfl rfl rfl ?_
        refine v_if_eq (pc2 := 21) (tgt := 37) S dX3_cordsTo_18 (by decide) rfl (fun c4 => ?_) (fun c4 => ?_)
        · have hw := hw.1 c4
          obtain ⟨z5, ez5⟩ : ∃ y : Int32, y = x4 + (1 : Int32) := ⟨_, rfl⟩
          have hw := hw z5 ez5
          refine v_iinc (v := z5) (lv2 := [(0, .ref a0.1), (1, .int x1), (2, .int x2), (3, .int x3), (4, .int z5)]) (pc2 := 40) S 4 dX3_cordsTo_37 rfl (by rw [ez5]; rfl) (by decide) [1, 2, 3, 4, 0] rfl rfl ?_
          refine v_goto (tgt := 5) S dX3_cordsTo_40 (by decide) ?_
          exact ih x3 z5 hw
        · have hw := hw.2 c4
          refine v_aload_n (pc2 := 22) S 0 dX3_cordsTo_21 rfl rfl rfl ?_
          refine v_iload (pc2 := 24) S 4 dX3_cordsTo_22 rfl rfl ?_
          refine v_callV (pc2 := 27) (As := [.int x4]) (rest := []) S (c_X3_targetsOf l G a0 v0 x4 _ hw) mf_X3_targetsOf u_291 u_292 u_293 0 3 rfl rfl rfl rfl ⟨rfl, rfl⟩ ⟨Nat.le_of_ble_eq_true rfl, Nat.le_of_ble_eq_true rfl⟩ ⟨Nat.le_of_ble_eq_true rfl, Nat.le_of_ble_eq_true rfl⟩ (Nat.le_of_ble_eq_true rfl) dX3_cordsTo_24 (frW _) rfl (pi (fun r6 u7 hw => ?_))
          refine v_to (wLoom G a0 v0.1 v0.2.1 v0.2.2.1 v0.2.2.2.1 v0.2.2.2.2.1 v0.2.2.2.2.2) 27 [(0, .ref a0.1), (1, .int x1), (2, .int x2), (3, .int x3), (4, .int x4)] _ [.int r6] rfl rfl rfl rfl ?_
          refine v_iload_n (pc2 := 28) S 1 dX3_cordsTo_27 rfl rfl rfl ?_
          refine v_callSN (pc2 := 31) (As := [.int r6, .int x1]) (rest := []) S (c_X8_has l G r6 x1 _ hw) mf_X8_has u_290 u_276 rfl rfl ⟨rfl, rfl⟩ ⟨Nat.le_of_ble_eq_true rfl, Nat.le_of_ble_eq_true rfl⟩ ⟨Nat.le_of_ble_eq_true rfl, Nat.le_of_ble_eq_true rfl⟩ (Nat.le_of_ble_eq_true rfl) dX3_cordsTo_28 (frM [] [] _) rfl (pb (fun r8 u9 br8 hw => ?_))
          refine v_to (wLoom G a0 v0.1 v0.2.1 v0.2.2.1 v0.2.2.2.1 v0.2.2.2.2.1 v0.2.2.2.2.2) 31 [(0, .ref a0.1), (1, .int x1), (2, .int x2), (3, .int x3), (4, .int x4)] _ [.int r8] rfl rfl rfl rfl ?_
          refine v_if_eq (pc2 := 34) (tgt := 37) S dX3_cordsTo_31 (by decide) rfl (fun c10 => ?_) (fun c10 => ?_)
          · have hw := hw.1 c10
            obtain ⟨z11, ez11⟩ : ∃ y : Int32, y = x4 + (1 : Int32) := ⟨_, rfl⟩
            have hw := hw z11 ez11
            refine v_iinc (v := z11) (lv2 := [(0, .ref a0.1), (1, .int x1), (2, .int x2), (3, .int x3), (4, .int z11)]) (pc2 := 40) S 4 dX3_cordsTo_37 rfl (by rw [ez11]; rfl) (by decide) [1, 2, 3, 4, 0] rfl rfl ?_
            refine v_goto (tgt := 5) S dX3_cordsTo_40 (by decide) ?_
            exact ih x3 z11 hw
          · have hw := hw.2 c10
            obtain ⟨z12, ez12⟩ : ∃ y : Int32, y = x3 + (1 : Int32) := ⟨_, rfl⟩
            have hw := hw z12 ez12
            refine v_iinc (v := z12) (lv2 := [(0, .ref a0.1), (1, .int x1), (2, .int x2), (3, .int z12), (4, .int x4)]) (pc2 := 37) S 3 dX3_cordsTo_34 rfl (by rw [ez12]; rfl) (by decide) [1, 2, 3, 0, 4] rfl rfl ?_
            obtain ⟨z13, ez13⟩ : ∃ y : Int32, y = x4 + (1 : Int32) := ⟨_, rfl⟩
            have hw := hw z13 ez13
            refine v_iinc (v := z13) (lv2 := [(0, .ref a0.1), (1, .int x1), (2, .int x2), (3, .int z12), (4, .int z13)]) (pc2 := 40) S 4 dX3_cordsTo_37 rfl (by rw [ez13]; rfl) (by decide) [1, 2, 3, 4, 0] rfl rfl ?_
            refine v_goto (tgt := 5) S dX3_cordsTo_40 (by decide) ?_
            exact ih z12 z13 hw
  refine v_iconst (v := 0) (pc2 := 1) S dX3_cordsTo_0 (by decide) rfl ?_
  refine v_istore_n (lv2 := [(0, .ref a0.1), (1, .int i0), (2, .int i1), (3, .int (0 : Int32))]) (pc2 := 2) S dX3_cordsTo_1 rfl (by decide) [1, 2, 3, 0] rfl rfl ?_
  refine v_iconst (v := 0) (pc2 := 3) S dX3_cordsTo_2 (by decide) rfl ?_
  refine v_istore (lv2 := [(0, .ref a0.1), (1, .int i0), (2, .int i1), (3, .int (0 : Int32)), (4, .int (0 : Int32))]) (pc2 := 5) S dX3_cordsTo_3 (by decide) [1, 2, 3, 4, 0] rfl rfl ?_
  obtain ⟨kk, hw⟩ := hw
  exact L5 i0 i1 kk (0 : Int32) (0 : Int32) hw
set_option maxHeartbeats 4000000 in
set_option maxRecDepth 100000 in
theorem c_X3_pairsOfDoors (l : Launch) (G : GG) (a0 : LoomA) (v0 : LoomV) (Q : Int32 → Prop) (hw : wp_X3_pairsOfDoors v0 Q) : Con l G yX3_pairsOfDoors cX3_pairsOfDoors 4 (some .int) { frames := 1, cells := 0, slots := 0, locals := 21 } [.ref a0.1] (wLoom G a0 v0.1 v0.2.1 v0.2.2.1 v0.2.2.2.1 v0.2.2.2.2.1 v0.2.2.2.2.2) (PI (fun _ : Unit => wLoom G a0 v0.1 v0.2.1 v0.2.2.1 v0.2.2.2.1 v0.2.2.2.2.1 v0.2.2.2.2.2) (fun r _ => Q r)) 0 0 := by
  refine con_of RX3 rfl (by decide) [(0, .ref a0.1)] rfl (Nat.le_of_ble_eq_true rfl) ?_
  intro p e s m args below meth c S hname
  have L14 : ∀ (x2 : Int32) (K4 : Int32 → Int32 → Prop) (hK4 : ∀ (y0 : Int32) (y1 : Int32), K4 y0 y1 → V p l e { frames := 1, cells := 0, slots := 0, locals := 21 } s m args below meth c G (va_A (wLoom G a0 v0.1 v0.2.1 v0.2.2.1 v0.2.2.2.1 v0.2.2.2.2.1 v0.2.2.2.2.2) s.heap.size) 4 0 0 (MQ below (EQ G (wLoom G a0 v0.1 v0.2.1 v0.2.2.1 v0.2.2.2.1 v0.2.2.2.2.1 v0.2.2.2.2.2) s.heap.size (PI (fun _ : Unit => wLoom G a0 v0.1 v0.2.1 v0.2.2.1 v0.2.2.2.1 v0.2.2.2.2.1 v0.2.2.2.2.2) (fun r _ => Q r))) args s 0 0 (va_A (wLoom G a0 v0.1 v0.2.1 v0.2.2.1 v0.2.2.2.1 v0.2.2.2.2.1 v0.2.2.2.2.2) s.heap.size)) (wLoom G a0 v0.1 v0.2.1 v0.2.2.1 v0.2.2.2.1 v0.2.2.2.2.1 v0.2.2.2.2.2) 4 [(0, .ref a0.1), (1, .int y0), (2, .int y1)] []) (kk : Nat) (x1 : Int32) (x3 : Int32), wp_X3_pairsOfDoors_L14 v0 x2 Q K4 kk x1 x3 → V p l e { frames := 1, cells := 0, slots := 0, locals := 21 } s m args below meth c G (va_A (wLoom G a0 v0.1 v0.2.1 v0.2.2.1 v0.2.2.2.1 v0.2.2.2.2.1 v0.2.2.2.2.2) s.heap.size) 4 0 0 (MQ below (EQ G (wLoom G a0 v0.1 v0.2.1 v0.2.2.1 v0.2.2.2.1 v0.2.2.2.2.1 v0.2.2.2.2.2) s.heap.size (PI (fun _ : Unit => wLoom G a0 v0.1 v0.2.1 v0.2.2.1 v0.2.2.2.1 v0.2.2.2.2.1 v0.2.2.2.2.2) (fun r _ => Q r))) args s 0 0 (va_A (wLoom G a0 v0.1 v0.2.1 v0.2.2.1 v0.2.2.2.1 v0.2.2.2.2.1 v0.2.2.2.2.2) s.heap.size)) (wLoom G a0 v0.1 v0.2.1 v0.2.2.1 v0.2.2.2.1 v0.2.2.2.2.1 v0.2.2.2.2.2) 14 [(0, .ref a0.1), (1, .int x1), (2, .int x2), (3, .int x3)] [] := by
    intro x2 K4 hK4 kk
    induction kk with
    | zero => intro x1 x3 hw; exact hw.elim
    | succ n ih =>
      intro x1 x3 hw
      refine v_iload_n (pc2 := 15) S 3 dX3_pairsOfDoors_14 rfl rfl rfl ?_
      refine v_bipush (v := 10) (pc2 := 17) S dX3_pairsOfDoors_15 (by decide) rfl ?_
      refine v_icmp_ge (pc2 := 20) (tgt := 53) S dX3_pairsOfDoors_17 (by decide) rfl (fun c3 => ?_) (fun c3 => ?_)
      · have hw := hw.1 c3
        obtain ⟨z4, ez4⟩ : ∃ y : Int32, y = x2 + (1 : Int32) := ⟨_, rfl⟩
        have hw := hw z4 ez4
        refine v_iinc (v := z4) (lv2 := [(0, .ref a0.1), (1, .int x1), (2, .int z4), (3, .int x3)]) (pc2 := 56) S 2 dX3_pairsOfDoors_53 rfl (by rw [ez4]; rfl) (by decide) [1, 2, 0, 3] rfl rfl ?_
        refine v_goto (tgt := 4) S dX3_pairsOfDoors_56 (by decide) ?_
        refine v_lv [(0, .ref a0.1), (1, .int x1), (2, .int z4)] [0, 1, 2] rfl ?_
        exact hK4 x1 z4 hw
      · have hw := hw.2 c3
        refine v_aload_n (pc2 := 21) S 0 dX3_pairsOfDoors_20 rfl rfl rfl ?_
        refine v_iload_n (pc2 := 22) S 2 dX3_pairsOfDoors_21 rfl rfl rfl ?_
        refine v_callV (pc2 := 25) (As := [.int x2]) (rest := []) S (c_X3_targetsOf l G a0 v0 x2 _ hw) mf_X3_targetsOf u_291 u_292 u_293 0 3 rfl rfl rfl rfl ⟨rfl, rfl⟩ ⟨Nat.le_of_ble_eq_true rfl, Nat.le_of_ble_eq_true rfl⟩ ⟨Nat.le_of_ble_eq_true rfl, Nat.le_of_ble_eq_true rfl⟩ (Nat.le_of_ble_eq_true rfl) dX3_pairsOfDoors_22 (frW _) rfl (pi (fun r5 u6 hw => ?_))
        refine v_to (wLoom G a0 v0.1 v0.2.1 v0.2.2.1 v0.2.2.2.1 v0.2.2.2.2.1 v0.2.2.2.2.2) 25 [(0, .ref a0.1), (1, .int x1), (2, .int x2), (3, .int x3)] _ [.int r5] rfl rfl rfl rfl ?_
        refine v_iload_n (pc2 := 26) S 3 dX3_pairsOfDoors_25 rfl rfl rfl ?_
        refine v_callSN (pc2 := 29) (As := [.int r5, .int x3]) (rest := []) S (c_X8_has l G r5 x3 _ hw) mf_X8_has u_290 u_276 rfl rfl ⟨rfl, rfl⟩ ⟨Nat.le_of_ble_eq_true rfl, Nat.le_of_ble_eq_true rfl⟩ ⟨Nat.le_of_ble_eq_true rfl, Nat.le_of_ble_eq_true rfl⟩ (Nat.le_of_ble_eq_true rfl) dX3_pairsOfDoors_26 (frM [] [] _) rfl (pb (fun r7 u8 br7 hw => ?_))
        refine v_to (wLoom G a0 v0.1 v0.2.1 v0.2.2.1 v0.2.2.2.1 v0.2.2.2.2.1 v0.2.2.2.2.2) 29 [(0, .ref a0.1), (1, .int x1), (2, .int x2), (3, .int x3)] _ [.int r7] rfl rfl rfl rfl ?_
        refine v_if_eq (pc2 := 32) (tgt := 47) S dX3_pairsOfDoors_29 (by decide) rfl (fun c9 => ?_) (fun c9 => ?_)
        · have hw := hw.1 c9
          obtain ⟨z10, ez10⟩ : ∃ y : Int32, y = x3 + (1 : Int32) := ⟨_, rfl⟩
          have hw := hw z10 ez10
          refine v_iinc (v := z10) (lv2 := [(0, .ref a0.1), (1, .int x1), (2, .int x2), (3, .int z10)]) (pc2 := 50) S 3 dX3_pairsOfDoors_47 rfl (by rw [ez10]; rfl) (by decide) [1, 2, 3, 0] rfl rfl ?_
          refine v_goto (tgt := 14) S dX3_pairsOfDoors_50 (by decide) ?_
          exact ih x1 z10 hw
        · have hw := hw.2 c9
          refine v_aload_n (pc2 := 33) S 0 dX3_pairsOfDoors_32 rfl rfl rfl ?_
          refine v_iload_n (pc2 := 34) S 3 dX3_pairsOfDoors_33 rfl rfl rfl ?_
          refine v_callV (pc2 := 37) (As := [.int x3]) (rest := []) S (c_X3_targetsOf l G a0 v0 x3 _ hw) mf_X3_targetsOf u_291 u_292 u_293 0 3 rfl rfl rfl rfl ⟨rfl, rfl⟩ ⟨Nat.le_of_ble_eq_true rfl, Nat.le_of_ble_eq_true rfl⟩ ⟨Nat.le_of_ble_eq_true rfl, Nat.le_of_ble_eq_true rfl⟩ (Nat.le_of_ble_eq_true rfl) dX3_pairsOfDoors_34 (frW _) rfl (pi (fun r11 u12 hw => ?_))
          refine v_to (wLoom G a0 v0.1 v0.2.1 v0.2.2.1 v0.2.2.2.1 v0.2.2.2.2.1 v0.2.2.2.2.2) 37 [(0, .ref a0.1), (1, .int x1), (2, .int x2), (3, .int x3)] _ [.int r11] rfl rfl rfl rfl ?_
          refine v_iload_n (pc2 := 38) S 2 dX3_pairsOfDoors_37 rfl rfl rfl ?_
          refine v_callSN (pc2 := 41) (As := [.int r11, .int x2]) (rest := []) S (c_X8_has l G r11 x2 _ hw) mf_X8_has u_290 u_276 rfl rfl ⟨rfl, rfl⟩ ⟨Nat.le_of_ble_eq_true rfl, Nat.le_of_ble_eq_true rfl⟩ ⟨Nat.le_of_ble_eq_true rfl, Nat.le_of_ble_eq_true rfl⟩ (Nat.le_of_ble_eq_true rfl) dX3_pairsOfDoors_38 (frM [] [] _) rfl (pb (fun r13 u14 br13 hw => ?_))
          refine v_to (wLoom G a0 v0.1 v0.2.1 v0.2.2.1 v0.2.2.2.1 v0.2.2.2.2.1 v0.2.2.2.2.2) 41 [(0, .ref a0.1), (1, .int x1), (2, .int x2), (3, .int x3)] _ [.int r13] rfl rfl rfl rfl ?_
          refine v_if_eq (pc2 := 44) (tgt := 47) S dX3_pairsOfDoors_41 (by decide) rfl (fun c15 => ?_) (fun c15 => ?_)
          · have hw := hw.1 c15
            obtain ⟨z16, ez16⟩ : ∃ y : Int32, y = x3 + (1 : Int32) := ⟨_, rfl⟩
            have hw := hw z16 ez16
            refine v_iinc (v := z16) (lv2 := [(0, .ref a0.1), (1, .int x1), (2, .int x2), (3, .int z16)]) (pc2 := 50) S 3 dX3_pairsOfDoors_47 rfl (by rw [ez16]; rfl) (by decide) [1, 2, 3, 0] rfl rfl ?_
            refine v_goto (tgt := 14) S dX3_pairsOfDoors_50 (by decide) ?_
            exact ih x1 z16 hw
          · have hw := hw.2 c15
            obtain ⟨z17, ez17⟩ : ∃ y : Int32, y = x1 + (1 : Int32) := ⟨_, rfl⟩
            have hw := hw z17 ez17
            refine v_iinc (v := z17) (lv2 := [(0, .ref a0.1), (1, .int z17), (2, .int x2), (3, .int x3)]) (pc2 := 47) S 1 dX3_pairsOfDoors_44 rfl (by rw [ez17]; rfl) (by decide) [1, 0, 2, 3] rfl rfl ?_
            obtain ⟨z18, ez18⟩ : ∃ y : Int32, y = x3 + (1 : Int32) := ⟨_, rfl⟩
            have hw := hw z18 ez18
            refine v_iinc (v := z18) (lv2 := [(0, .ref a0.1), (1, .int z17), (2, .int x2), (3, .int z18)]) (pc2 := 50) S 3 dX3_pairsOfDoors_47 rfl (by rw [ez18]; rfl) (by decide) [1, 2, 3, 0] rfl rfl ?_
            refine v_goto (tgt := 14) S dX3_pairsOfDoors_50 (by decide) ?_
            exact ih z17 z18 hw
  have L4 : ∀ (kk : Nat) (x1 : Int32) (x2 : Int32), wp_X3_pairsOfDoors_L4 v0 Q kk x1 x2 → V p l e { frames := 1, cells := 0, slots := 0, locals := 21 } s m args below meth c G (va_A (wLoom G a0 v0.1 v0.2.1 v0.2.2.1 v0.2.2.2.1 v0.2.2.2.2.1 v0.2.2.2.2.2) s.heap.size) 4 0 0 (MQ below (EQ G (wLoom G a0 v0.1 v0.2.1 v0.2.2.1 v0.2.2.2.1 v0.2.2.2.2.1 v0.2.2.2.2.2) s.heap.size (PI (fun _ : Unit => wLoom G a0 v0.1 v0.2.1 v0.2.2.1 v0.2.2.2.1 v0.2.2.2.2.1 v0.2.2.2.2.2) (fun r _ => Q r))) args s 0 0 (va_A (wLoom G a0 v0.1 v0.2.1 v0.2.2.1 v0.2.2.2.1 v0.2.2.2.2.1 v0.2.2.2.2.2) s.heap.size)) (wLoom G a0 v0.1 v0.2.1 v0.2.2.1 v0.2.2.2.1 v0.2.2.2.2.1 v0.2.2.2.2.2) 4 [(0, .ref a0.1), (1, .int x1), (2, .int x2)] [] := by
    intro kk
    induction kk with
    | zero => intro x1 x2 hw; exact hw.elim
    | succ n ih =>
      intro x1 x2 hw
      refine v_iload_n (pc2 := 5) S 2 dX3_pairsOfDoors_4 rfl rfl rfl ?_
      refine v_bipush (v := 10) (pc2 := 7) S dX3_pairsOfDoors_5 (by decide) rfl ?_
      refine v_icmp_ge (pc2 := 10) (tgt := 59) S dX3_pairsOfDoors_7 (by decide) rfl (fun c1 => ?_) (fun c1 => ?_)
      · have hw := hw.1 c1
        refine v_iload_n (pc2 := 60) S 1 dX3_pairsOfDoors_59 rfl rfl rfl ?_
        exact v_iret S ⟨x1, (), rfl, rfl, hw⟩ dX3_pairsOfDoors_60
      · have hw := hw.2 c1
        refine v_iload_n (pc2 := 11) S 2 dX3_pairsOfDoors_10 rfl rfl rfl ?_
        refine v_iconst (v := 1) (pc2 := 12) S dX3_pairsOfDoors_11 (by decide) rfl ?_
        refine v_iadd (pc2 := 13) S dX3_pairsOfDoors_12 rfl ?_
        refine v_nm (fun z2 ez2 => ?_)
        have hw := hw z2 ez2
        refine v_istore_n (lv2 := [(0, .ref a0.1), (1, .int x1), (2, .int x2), (3, .int z2)]) (pc2 := 14) S dX3_pairsOfDoors_13 rfl (by decide) [1, 2, 3, 0] rfl rfl ?_
        obtain ⟨kk, hw⟩ := hw
        exact L14 x2 (wp_X3_pairsOfDoors_L4 v0 Q n) ih kk x1 z2 hw
  refine v_iconst (v := 0) (pc2 := 1) S dX3_pairsOfDoors_0 (by decide) rfl ?_
  refine v_istore_n (lv2 := [(0, .ref a0.1), (1, .int (0 : Int32))]) (pc2 := 2) S dX3_pairsOfDoors_1 rfl (by decide) [1, 0] rfl rfl ?_
  refine v_iconst (v := 0) (pc2 := 3) S dX3_pairsOfDoors_2 (by decide) rfl ?_
  refine v_istore_n (lv2 := [(0, .ref a0.1), (1, .int (0 : Int32)), (2, .int (0 : Int32))]) (pc2 := 4) S dX3_pairsOfDoors_3 rfl (by decide) [1, 2, 0] rfl rfl ?_
  obtain ⟨kk, hw⟩ := hw
  exact L4 kk (0 : Int32) (0 : Int32) hw
set_option maxHeartbeats 4000000 in
set_option maxRecDepth 100000 in
theorem c_X3_hasTooMany (l : Launch) (G : GG) (a0 : LoomA) (v0 : LoomV) (i0 : Int32) (i1 : Int32) (Q : Int32 → Prop) (hw : wp_X3_hasTooMany v0 i0 i1 Q) : Con l G yX3_hasTooMany cX3_hasTooMany 3 (some .boolean) { frames := 1, cells := 0, slots := 0, locals := 20 } [.ref a0.1, .int i0, .int i1] (wLoom G a0 v0.1 v0.2.1 v0.2.2.1 v0.2.2.2.1 v0.2.2.2.2.1 v0.2.2.2.2.2) (PB (fun _ : Unit => wLoom G a0 v0.1 v0.2.1 v0.2.2.1 v0.2.2.2.1 v0.2.2.2.2.1 v0.2.2.2.2.2) (fun r _ => Q r)) 0 0 := by
  refine con_of RX3 rfl (by decide) [(0, .ref a0.1), (1, .int i0), (2, .int i1)] rfl (Nat.le_of_ble_eq_true rfl) ?_
  intro p e s m args below meth c S hname
  refine v_aload_n (pc2 := 1) S 0 dX3_hasTooMany_0 rfl rfl rfl ?_
  refine v_get (v := .ref a0.2.2.2.2.2) (pc2 := 4) S gf_X3_24 0 rfl rfl dX3_hasTooMany_1 rfl ?_
  refine v_iload_n (pc2 := 5) S 1 dX3_hasTooMany_4 rfl rfl rfl ?_
  obtain ⟨h1, hw⟩ := hw
  refine v_iald (pc2 := 6) S 5 rfl h1 dX3_hasTooMany_5 rfl ?_
  refine v_iload_n (pc2 := 7) S 2 dX3_hasTooMany_6 rfl rfl rfl ?_
  refine v_iand (pc2 := 8) S dX3_hasTooMany_7 rfl ?_
  refine v_callS (pc2 := 11) (As := [.int ((v0.2.2.2.2.1 i0.toNatClampNeg) &&& i1)]) (rest := []) S (c_J6_bitCount_0f7a4 l G ((v0.2.2.2.2.1 i0.toNatClampNeg) &&& i1) _ hw) mf_J6_bitCount_0f7a4 u_311 u_312 rfl rfl ⟨rfl, rfl⟩ ⟨Nat.le_of_ble_eq_true rfl, Nat.le_of_ble_eq_true rfl⟩ ⟨Nat.le_of_ble_eq_true rfl, Nat.le_of_ble_eq_true rfl⟩ (Nat.le_of_ble_eq_true rfl) dX3_hasTooMany_8 (frM [] [] _) rfl (pi (fun r2 u3 hw => ?_))
  refine v_to (wLoom G a0 v0.1 v0.2.1 v0.2.2.1 v0.2.2.2.1 v0.2.2.2.2.1 v0.2.2.2.2.2) 11 [(0, .ref a0.1), (1, .int i0), (2, .int i1)] _ [.int r2] rfl rfl rfl rfl ?_
  refine v_aload_n (pc2 := 12) S 0 dX3_hasTooMany_11 rfl rfl rfl ?_
  refine v_get (v := .int v0.2.2.2.2.2) (pc2 := 15) S gf_X3_27 0 rfl rfl dX3_hasTooMany_12 rfl ?_
  refine v_icmp_le (pc2 := 18) (tgt := 22) S dX3_hasTooMany_15 (by decide) rfl (fun c4 => ?_) (fun c4 => ?_)
  · have hw := hw.1 c4
    refine v_iconst (v := 0) (pc2 := 23) S dX3_hasTooMany_22 (by decide) rfl ?_
    exact v_zret S (by decide) ⟨(0 : Int32), (), rfl, (by decide), rfl, hw⟩ dX3_hasTooMany_23
  · have hw := hw.2 c4
    refine v_iconst (v := 1) (pc2 := 19) S dX3_hasTooMany_18 (by decide) rfl ?_
    refine v_goto (tgt := 23) S dX3_hasTooMany_19 (by decide) ?_
    exact v_zret S (by decide) ⟨(1 : Int32), (), rfl, (by decide), rfl, hw⟩ dX3_hasTooMany_23
set_option maxHeartbeats 4000000 in
set_option maxRecDepth 100000 in
theorem c_X3_canBeOpen (l : Launch) (G : GG) (a0 : LoomA) (v0 : LoomV) (i0 : Int32) (Q : Int32 → Prop) (hw : wp_X3_canBeOpen v0 i0 Q) : Con l G yX3_canBeOpen cX3_canBeOpen 3 (some .boolean) { frames := 2, cells := 0, slots := 0, locals := 44 } [.ref a0.1, .int i0] (wLoom G a0 v0.1 v0.2.1 v0.2.2.1 v0.2.2.2.1 v0.2.2.2.2.1 v0.2.2.2.2.2) (PB (fun _ : Unit => wLoom G a0 v0.1 v0.2.1 v0.2.2.1 v0.2.2.2.1 v0.2.2.2.2.1 v0.2.2.2.2.2) (fun r _ => Q r)) 0 0 := by
  refine con_of RX3 rfl (by decide) [(0, .ref a0.1), (1, .int i0)] rfl (Nat.le_of_ble_eq_true rfl) ?_
  intro p e s m args below meth c S hname
  have L14 : ∀ (x1 : Int32) (kk : Nat) (x2 : Int32), wp_X3_canBeOpen_L14 v0 x1 Q kk x2 → V p l e { frames := 2, cells := 0, slots := 0, locals := 44 } s m args below meth c G (va_A (wLoom G a0 v0.1 v0.2.1 v0.2.2.1 v0.2.2.2.1 v0.2.2.2.2.1 v0.2.2.2.2.2) s.heap.size) 3 0 0 (MQ below (EQ G (wLoom G a0 v0.1 v0.2.1 v0.2.2.1 v0.2.2.2.1 v0.2.2.2.2.1 v0.2.2.2.2.2) s.heap.size (PB (fun _ : Unit => wLoom G a0 v0.1 v0.2.1 v0.2.2.1 v0.2.2.2.1 v0.2.2.2.2.1 v0.2.2.2.2.2) (fun r _ => Q r))) args s 0 0 (va_A (wLoom G a0 v0.1 v0.2.1 v0.2.2.1 v0.2.2.2.1 v0.2.2.2.2.1 v0.2.2.2.2.2) s.heap.size)) (wLoom G a0 v0.1 v0.2.1 v0.2.2.1 v0.2.2.2.1 v0.2.2.2.2.1 v0.2.2.2.2.2) 14 [(0, .ref a0.1), (1, .int x1), (2, .int x2)] [] := by
    intro x1 kk
    induction kk with
    | zero => intro x2 hw; exact hw.elim
    | succ n ih =>
      intro x2 hw
      refine v_iload_n (pc2 := 15) S 2 dX3_canBeOpen_14 rfl rfl rfl ?_
      refine v_bipush (v := 6) (pc2 := 17) S dX3_canBeOpen_15 (by decide) rfl ?_
      refine v_icmp_ge (pc2 := 20) (tgt := 37) S dX3_canBeOpen_17 (by decide) rfl (fun c4 => ?_) (fun c4 => ?_)
      · have hw := hw.1 c4
        refine v_iconst (v := 1) (pc2 := 38) S dX3_canBeOpen_37 (by decide) rfl ?_
        exact v_zret S (by decide) ⟨(1 : Int32), (), rfl, (by decide), rfl, hw⟩ dX3_canBeOpen_38
      · have hw := hw.2 c4
        refine v_aload_n (pc2 := 21) S 0 dX3_canBeOpen_20 rfl rfl rfl ?_
        refine v_iload_n (pc2 := 22) S 2 dX3_canBeOpen_21 rfl rfl rfl ?_
        refine v_iload_n (pc2 := 23) S 1 dX3_canBeOpen_22 rfl rfl rfl ?_
        refine v_callV (pc2 := 26) (As := [.int x2, .int x1]) (rest := []) S (c_X3_hasTooMany l G a0 v0 x2 x1 _ hw) mf_X3_hasTooMany u_307 u_309 u_2 0 3 rfl rfl rfl rfl ⟨rfl, rfl⟩ ⟨Nat.le_of_ble_eq_true rfl, Nat.le_of_ble_eq_true rfl⟩ ⟨Nat.le_of_ble_eq_true rfl, Nat.le_of_ble_eq_true rfl⟩ (Nat.le_of_ble_eq_true rfl) dX3_canBeOpen_23 (frW _) rfl (pb (fun r5 u6 br5 hw => ?_))
        refine v_to (wLoom G a0 v0.1 v0.2.1 v0.2.2.1 v0.2.2.2.1 v0.2.2.2.2.1 v0.2.2.2.2.2) 26 [(0, .ref a0.1), (1, .int x1), (2, .int x2)] _ [.int r5] rfl rfl rfl rfl ?_
        refine v_if_eq (pc2 := 29) (tgt := 31) S dX3_canBeOpen_26 (by decide) rfl (fun c7 => ?_) (fun c7 => ?_)
        · have hw := hw.1 c7
          obtain ⟨z8, ez8⟩ : ∃ y : Int32, y = x2 + (1 : Int32) := ⟨_, rfl⟩
          have hw := hw z8 ez8
          refine v_iinc (v := z8) (lv2 := [(0, .ref a0.1), (1, .int x1), (2, .int z8)]) (pc2 := 34) S 2 dX3_canBeOpen_31 rfl (by rw [ez8]; rfl) (by decide) [1, 2, 0] rfl rfl ?_
          refine v_goto (tgt := 14) S dX3_canBeOpen_34 (by decide) ?_
          exact ih z8 hw
        · have hw := hw.2 c7
          refine v_iconst (v := 0) (pc2 := 30) S dX3_canBeOpen_29 (by decide) rfl ?_
          exact v_zret S (by decide) ⟨(0 : Int32), (), rfl, (by decide), rfl, hw⟩ dX3_canBeOpen_30
  refine v_aload_n (pc2 := 1) S 0 dX3_canBeOpen_0 rfl rfl rfl ?_
  refine v_iload_n (pc2 := 2) S 1 dX3_canBeOpen_1 rfl rfl rfl ?_
  refine v_callV (pc2 := 5) (As := [.int i0]) (rest := []) S (c_X3_heldBy l G a0 v0 i0 _ hw) mf_X3_heldBy u_306 u_287 u_288 0 3 rfl rfl rfl rfl ⟨rfl, rfl⟩ ⟨Nat.le_of_ble_eq_true rfl, Nat.le_of_ble_eq_true rfl⟩ ⟨Nat.le_of_ble_eq_true rfl, Nat.le_of_ble_eq_true rfl⟩ (Nat.le_of_ble_eq_true rfl) dX3_canBeOpen_2 (frW _) rfl (pi (fun r1 u2 hw => ?_))
  refine v_to (wLoom G a0 v0.1 v0.2.1 v0.2.2.1 v0.2.2.2.1 v0.2.2.2.2.1 v0.2.2.2.2.2) 5 [(0, .ref a0.1), (1, .int i0)] _ [.int r1] rfl rfl rfl rfl ?_
  refine v_iload_n (pc2 := 6) S 1 dX3_canBeOpen_5 rfl rfl rfl ?_
  refine v_iand (pc2 := 7) S dX3_canBeOpen_6 rfl ?_
  refine v_if_eq (pc2 := 10) (tgt := 12) S dX3_canBeOpen_7 (by decide) rfl (fun c3 => ?_) (fun c3 => ?_)
  · have hw := hw.1 c3
    refine v_iconst (v := 0) (pc2 := 13) S dX3_canBeOpen_12 (by decide) rfl ?_
    refine v_istore_n (lv2 := [(0, .ref a0.1), (1, .int i0), (2, .int (0 : Int32))]) (pc2 := 14) S dX3_canBeOpen_13 rfl (by decide) [1, 2, 0] rfl rfl ?_
    obtain ⟨kk, hw⟩ := hw
    exact L14 i0 kk (0 : Int32) hw
  · have hw := hw.2 c3
    refine v_iconst (v := 0) (pc2 := 11) S dX3_canBeOpen_10 (by decide) rfl ?_
    exact v_zret S (by decide) ⟨(0 : Int32), (), rfl, (by decide), rfl, hw⟩ dX3_canBeOpen_11
set_option maxHeartbeats 4000000 in
set_option maxRecDepth 100000 in
theorem c_X3_afterCords (l : Launch) (G : GG) (a0 : LoomA) (v0 : LoomV) (i0 : Int32) (i1 : Int32) (Q : Int32 → Prop) (hw : wp_X3_afterCords v0 i0 i1 Q) : Con l G yX3_afterCords cX3_afterCords 3 (some .int) { frames := 1, cells := 0, slots := 0, locals := 21 } [.ref a0.1, .int i0, .int i1] (wLoom G a0 v0.1 v0.2.1 v0.2.2.1 v0.2.2.2.1 v0.2.2.2.2.1 v0.2.2.2.2.2) (PI (fun _ : Unit => wLoom G a0 v0.1 v0.2.1 v0.2.2.1 v0.2.2.2.1 v0.2.2.2.2.1 v0.2.2.2.2.2) (fun r _ => Q r)) 0 0 := by
  refine con_of RX3 rfl (by decide) [(0, .ref a0.1), (1, .int i0), (2, .int i1)] rfl (Nat.le_of_ble_eq_true rfl) ?_
  intro p e s m args below meth c S hname
  refine v_iload_n (pc2 := 1) S 1 dX3_afterCords_0 rfl rfl rfl ?_
  refine v_iconst (v := 1) (pc2 := 2) S dX3_afterCords_1 (by decide) rfl ?_
  refine v_iload_n (pc2 := 3) S 2 dX3_afterCords_2 rfl rfl rfl ?_
  refine v_ishl (pc2 := 4) S dX3_afterCords_3 rfl ?_
  refine v_ior (pc2 := 5) S dX3_afterCords_4 rfl ?_
  refine v_aload_n (pc2 := 6) S 0 dX3_afterCords_5 rfl rfl rfl ?_
  refine v_iload_n (pc2 := 7) S 2 dX3_afterCords_6 rfl rfl rfl ?_
  refine v_callV (pc2 := 10) (As := [.int i1]) (rest := [.int (i0 ||| ((1 : Int32) <<< (i1 &&& 31)))]) S (c_X3_targetsOf l G a0 v0 i1 _ hw) mf_X3_targetsOf u_291 u_292 u_293 0 3 rfl rfl rfl rfl ⟨rfl, rfl⟩ ⟨Nat.le_of_ble_eq_true rfl, Nat.le_of_ble_eq_true rfl⟩ ⟨Nat.le_of_ble_eq_true rfl, Nat.le_of_ble_eq_true rfl⟩ (Nat.le_of_ble_eq_true rfl) dX3_afterCords_7 (frW _) rfl (pi (fun r1 u2 hw => ?_))
  refine v_to (wLoom G a0 v0.1 v0.2.1 v0.2.2.1 v0.2.2.2.1 v0.2.2.2.2.1 v0.2.2.2.2.2) 10 [(0, .ref a0.1), (1, .int i0), (2, .int i1)] _ [.int r1, .int (i0 ||| ((1 : Int32) <<< (i1 &&& 31)))] rfl rfl rfl rfl ?_
  refine v_iconst (v := -1) (pc2 := 11) S dX3_afterCords_10 (by decide) rfl ?_
  refine v_ixor (pc2 := 12) S dX3_afterCords_11 rfl ?_
  refine v_iand (pc2 := 13) S dX3_afterCords_12 rfl ?_
  exact v_iret S ⟨(i0 ||| ((1 : Int32) <<< (i1 &&& 31))) &&& (r1 ^^^ (-1 : Int32)), (), rfl, rfl, hw⟩ dX3_afterCords_13
set_option maxHeartbeats 4000000 in
set_option maxRecDepth 100000 in
theorem c_X3_afterDrafts (l : Launch) (G : GG) (a0 : LoomA) (v0 : LoomV) (i0 : Int32) (i1 : Int32) (Q : Int32 → Prop) (hw : wp_X3_afterDrafts v0 i0 i1 Q) : Con l G yX3_afterDrafts cX3_afterDrafts 8 (some .int) { frames := 2, cells := 0, slots := 0, locals := 42 } [.ref a0.1, .int i0, .int i1] (wLoom G a0 v0.1 v0.2.1 v0.2.2.1 v0.2.2.2.1 v0.2.2.2.2.1 v0.2.2.2.2.2) (PI (fun _ : Unit => wLoom G a0 v0.1 v0.2.1 v0.2.2.1 v0.2.2.2.1 v0.2.2.2.2.1 v0.2.2.2.2.2) (fun r _ => Q r)) 0 0 := by
  refine con_of RX3 rfl (by decide) [(0, .ref a0.1), (1, .int i0), (2, .int i1)] rfl (Nat.le_of_ble_eq_true rfl) ?_
  intro p e s m args below meth c S hname
  have L15 : ∀ (x2 : Int32) (x4 : Int32) (K5 : Int32 → Int32 → Prop) (hK5 : ∀ (y0 : Int32) (y1 : Int32), K5 y0 y1 → V p l e { frames := 2, cells := 0, slots := 0, locals := 42 } s m args below meth c G (va_A (wLoom G a0 v0.1 v0.2.1 v0.2.2.1 v0.2.2.2.1 v0.2.2.2.2.1 v0.2.2.2.2.2) s.heap.size) 8 0 0 (MQ below (EQ G (wLoom G a0 v0.1 v0.2.1 v0.2.2.1 v0.2.2.2.1 v0.2.2.2.2.1 v0.2.2.2.2.2) s.heap.size (PI (fun _ : Unit => wLoom G a0 v0.1 v0.2.1 v0.2.2.1 v0.2.2.2.1 v0.2.2.2.2.1 v0.2.2.2.2.2) (fun r _ => Q r))) args s 0 0 (va_A (wLoom G a0 v0.1 v0.2.1 v0.2.2.1 v0.2.2.2.1 v0.2.2.2.2.1 v0.2.2.2.2.2) s.heap.size)) (wLoom G a0 v0.1 v0.2.1 v0.2.2.1 v0.2.2.2.1 v0.2.2.2.2.1 v0.2.2.2.2.2) 5 [(0, .ref a0.1), (2, .int x2), (3, .int y0), (4, .int y1)] []) (kk : Nat) (x3 : Int32) (x5 : Int32), wp_X3_afterDrafts_L15 v0 x2 x4 Q K5 kk x3 x5 → V p l e { frames := 2, cells := 0, slots := 0, locals := 42 } s m args below meth c G (va_A (wLoom G a0 v0.1 v0.2.1 v0.2.2.1 v0.2.2.2.1 v0.2.2.2.2.1 v0.2.2.2.2.2) s.heap.size) 8 0 0 (MQ below (EQ G (wLoom G a0 v0.1 v0.2.1 v0.2.2.1 v0.2.2.2.1 v0.2.2.2.2.1 v0.2.2.2.2.2) s.heap.size (PI (fun _ : Unit => wLoom G a0 v0.1 v0.2.1 v0.2.2.1 v0.2.2.2.1 v0.2.2.2.2.1 v0.2.2.2.2.2) (fun r _ => Q r))) args s 0 0 (va_A (wLoom G a0 v0.1 v0.2.1 v0.2.2.1 v0.2.2.2.1 v0.2.2.2.2.1 v0.2.2.2.2.2) s.heap.size)) (wLoom G a0 v0.1 v0.2.1 v0.2.2.1 v0.2.2.2.1 v0.2.2.2.2.1 v0.2.2.2.2.2) 15 [(0, .ref a0.1), (2, .int x2), (3, .int x3), (4, .int x4), (5, .int x5)] [] := by
    intro x2 x4 K5 hK5 kk
    induction kk with
    | zero => intro x3 x5 hw; exact hw.elim
    | succ n ih =>
      intro x3 x5 hw
      refine v_iload (pc2 := 17) S 4 dX3_afterDrafts_15 rfl rfl ?_
      refine v_bipush (v := 10) (pc2 := 19) S dX3_afterDrafts_17 (by decide) rfl ?_
      refine v_icmp_ge (pc2 := 22) (tgt := 68) S dX3_afterDrafts_19 (by decide) rfl (fun c2 => ?_) (fun c2 => ?_)
      · have hw := hw.1 c2
        obtain ⟨z3, ez3⟩ : ∃ y : Int32, y = x4 + (1 : Int32) := ⟨_, rfl⟩
        have hw := hw z3 ez3
        refine v_iinc (v := z3) (lv2 := [(0, .ref a0.1), (2, .int x2), (3, .int x3), (4, .int z3), (5, .int x5)]) (pc2 := 71) S 3 dX3_afterDrafts_68 rfl (by rw [ez3]; rfl) (by decide) [1, 2, 3, 0, 4] rfl rfl ?_
        refine v_goto (tgt := 5) S dX3_afterDrafts_71 (by decide) ?_
        refine v_lv [(0, .ref a0.1), (2, .int x2), (3, .int x3), (4, .int z3)] [0, 1, 2, 3] rfl ?_
        exact hK5 x3 z3 hw
      · have hw := hw.2 c2
        refine v_aload_n (pc2 := 23) S 0 dX3_afterDrafts_22 rfl rfl rfl ?_
        refine v_iload (pc2 := 25) S 3 dX3_afterDrafts_23 rfl rfl ?_
        refine v_iload_n (pc2 := 26) S 2 dX3_afterDrafts_25 rfl rfl rfl ?_
        refine v_callV (pc2 := 29) (As := [.int x4, .int x3]) (rest := []) S (c_X3_hasTooMany l G a0 v0 x4 x3 _ hw) mf_X3_hasTooMany u_307 u_309 u_2 0 3 rfl rfl rfl rfl ⟨rfl, rfl⟩ ⟨Nat.le_of_ble_eq_true rfl, Nat.le_of_ble_eq_true rfl⟩ ⟨Nat.le_of_ble_eq_true rfl, Nat.le_of_ble_eq_true rfl⟩ (Nat.le_of_ble_eq_true rfl) dX3_afterDrafts_26 (frW _) rfl (pb (fun r4 u5 br4 hw => ?_))
        refine v_to (wLoom G a0 v0.1 v0.2.1 v0.2.2.1 v0.2.2.2.1 v0.2.2.2.2.1 v0.2.2.2.2.2) 29 [(0, .ref a0.1), (2, .int x2), (3, .int x3), (4, .int x4), (5, .int x5)] _ [.int r4] rfl rfl rfl rfl ?_
        refine v_if_eq (pc2 := 32) (tgt := 68) S dX3_afterDrafts_29 (by decide) rfl (fun c6 => ?_) (fun c6 => ?_)
        · have hw := hw.1 c6
          obtain ⟨z7, ez7⟩ : ∃ y : Int32, y = x4 + (1 : Int32) := ⟨_, rfl⟩
          have hw := hw z7 ez7
          refine v_iinc (v := z7) (lv2 := [(0, .ref a0.1), (2, .int x2), (3, .int x3), (4, .int z7), (5, .int x5)]) (pc2 := 71) S 3 dX3_afterDrafts_68 rfl (by rw [ez7]; rfl) (by decide) [1, 2, 3, 0, 4] rfl rfl ?_
          refine v_goto (tgt := 5) S dX3_afterDrafts_71 (by decide) ?_
          refine v_lv [(0, .ref a0.1), (2, .int x2), (3, .int x3), (4, .int z7)] [0, 1, 2, 3] rfl ?_
          exact hK5 x3 z7 hw
        · have hw := hw.2 c6
          refine v_iload_n (pc2 := 33) S 2 dX3_afterDrafts_32 rfl rfl rfl ?_
          refine v_aload_n (pc2 := 34) S 0 dX3_afterDrafts_33 rfl rfl rfl ?_
          refine v_get (v := .ref a0.2.2.2.2.2) (pc2 := 37) S gf_X3_24 0 rfl rfl dX3_afterDrafts_34 rfl ?_
          refine v_iload (pc2 := 39) S 3 dX3_afterDrafts_37 rfl rfl ?_
          obtain ⟨h8, hw⟩ := hw
          refine v_iald (pc2 := 40) S 5 rfl h8 dX3_afterDrafts_39 rfl ?_
          refine v_iand (pc2 := 41) S dX3_afterDrafts_40 rfl ?_
          refine v_iload_n (pc2 := 42) S 1 dX3_afterDrafts_41 rfl rfl rfl ?_
          refine v_callSN (pc2 := 45) (As := [.int (x3 &&& (v0.2.2.2.2.1 x4.toNatClampNeg)), .int x2]) (rest := []) S (c_X8_without l G (x3 &&& (v0.2.2.2.2.1 x4.toNatClampNeg)) x2 _ hw) mf_X8_without u_57 u_58 rfl rfl ⟨rfl, rfl⟩ ⟨Nat.le_of_ble_eq_true rfl, Nat.le_of_ble_eq_true rfl⟩ ⟨Nat.le_of_ble_eq_true rfl, Nat.le_of_ble_eq_true rfl⟩ (Nat.le_of_ble_eq_true rfl) dX3_afterDrafts_42 (frM [] [] _) rfl (pi (fun r9 u10 hw => ?_))
          refine v_to (wLoom G a0 v0.1 v0.2.1 v0.2.2.1 v0.2.2.2.1 v0.2.2.2.2.1 v0.2.2.2.2.2) 45 [(0, .ref a0.1), (2, .int x2), (3, .int x3), (4, .int x4), (5, .int x5)] _ [.int r9] rfl rfl rfl rfl ?_
          refine v_istore (lv2 := [(0, .ref a0.1), (2, .int x2), (3, .int x3), (4, .int x4), (5, .int x5), (6, .int r9)]) (pc2 := 47) S dX3_afterDrafts_45 (by decide) [1, 2, 3, 4, 5, 0] rfl rfl ?_
          refine v_iload (pc2 := 49) S 5 dX3_afterDrafts_47 rfl rfl ?_
          refine v_iload (pc2 := 51) S 5 dX3_afterDrafts_49 rfl rfl ?_
          refine v_ineg (pc2 := 52) S dX3_afterDrafts_51 rfl ?_
          refine v_iand (pc2 := 53) S dX3_afterDrafts_52 rfl ?_
          refine v_nm (fun z11 ez11 => ?_)
          have hw := hw z11 ez11
          refine v_istore (lv2 := [(0, .ref a0.1), (2, .int x2), (3, .int x3), (4, .int x4), (5, .int x5), (6, .int r9), (7, .int z11)]) (pc2 := 55) S dX3_afterDrafts_53 (by decide) [1, 2, 3, 4, 5, 6, 0] rfl rfl ?_
          refine v_iload_n (pc2 := 56) S 2 dX3_afterDrafts_55 rfl rfl rfl ?_
          refine v_iload (pc2 := 58) S 6 dX3_afterDrafts_56 rfl rfl ?_
          refine v_iconst (v := -1) (pc2 := 59) S dX3_afterDrafts_58 (by decide) rfl ?_
          refine v_ixor (pc2 := 60) S dX3_afterDrafts_59 rfl ?_
          refine v_iand (pc2 := 61) S dX3_afterDrafts_60 rfl ?_
          refine v_nm (fun z12 ez12 => ?_)
          have hw := hw z12 ez12
          refine v_istore_n (lv2 := [(0, .ref a0.1), (2, .int x2), (3, .int z12), (4, .int x4), (5, .int x5), (6, .int r9), (7, .int z11)]) (pc2 := 62) S dX3_afterDrafts_61 rfl (by decide) [1, 2, 0, 3, 4, 5, 6] rfl rfl ?_
          obtain ⟨z13, ez13⟩ : ∃ y : Int32, y = x5 + (1 : Int32) := ⟨_, rfl⟩
          have hw := hw z13 ez13
          refine v_iinc (v := z13) (lv2 := [(0, .ref a0.1), (2, .int x2), (3, .int z12), (4, .int x4), (5, .int z13), (6, .int r9), (7, .int z11)]) (pc2 := 65) S 4 dX3_afterDrafts_62 rfl (by rw [ez13]; rfl) (by decide) [1, 2, 3, 4, 0, 5, 6] rfl rfl ?_
          refine v_goto (tgt := 15) S dX3_afterDrafts_65 (by decide) ?_
          refine v_lv [(0, .ref a0.1), (2, .int x2), (3, .int z12), (4, .int x4), (5, .int z13)] [0, 1, 2, 3, 4] rfl ?_
          exact ih z12 z13 hw
  have L5 : ∀ (x2 : Int32) (kk : Nat) (x3 : Int32) (x4 : Int32), wp_X3_afterDrafts_L5 v0 x2 Q kk x3 x4 → V p l e { frames := 2, cells := 0, slots := 0, locals := 42 } s m args below meth c G (va_A (wLoom G a0 v0.1 v0.2.1 v0.2.2.1 v0.2.2.2.1 v0.2.2.2.2.1 v0.2.2.2.2.2) s.heap.size) 8 0 0 (MQ below (EQ G (wLoom G a0 v0.1 v0.2.1 v0.2.2.1 v0.2.2.2.1 v0.2.2.2.2.1 v0.2.2.2.2.2) s.heap.size (PI (fun _ : Unit => wLoom G a0 v0.1 v0.2.1 v0.2.2.1 v0.2.2.2.1 v0.2.2.2.2.1 v0.2.2.2.2.2) (fun r _ => Q r))) args s 0 0 (va_A (wLoom G a0 v0.1 v0.2.1 v0.2.2.1 v0.2.2.2.1 v0.2.2.2.2.1 v0.2.2.2.2.2) s.heap.size)) (wLoom G a0 v0.1 v0.2.1 v0.2.2.1 v0.2.2.2.1 v0.2.2.2.2.1 v0.2.2.2.2.2) 5 [(0, .ref a0.1), (2, .int x2), (3, .int x3), (4, .int x4)] [] := by
    intro x2 kk
    induction kk with
    | zero => intro x3 x4 hw; exact hw.elim
    | succ n ih =>
      intro x3 x4 hw
      refine v_iload (pc2 := 7) S 3 dX3_afterDrafts_5 rfl rfl ?_
      refine v_bipush (v := 6) (pc2 := 9) S dX3_afterDrafts_7 (by decide) rfl ?_
      refine v_icmp_ge (pc2 := 12) (tgt := 74) S dX3_afterDrafts_9 (by decide) rfl (fun c1 => ?_) (fun c1 => ?_)
      · have hw := hw.1 c1
        refine v_iload_n (pc2 := 75) S 2 dX3_afterDrafts_74 rfl rfl rfl ?_
        exact v_iret S ⟨x3, (), rfl, rfl, hw⟩ dX3_afterDrafts_75
      · have hw := hw.2 c1
        refine v_iconst (v := 0) (pc2 := 13) S dX3_afterDrafts_12 (by decide) rfl ?_
        refine v_istore (lv2 := [(0, .ref a0.1), (2, .int x2), (3, .int x3), (4, .int x4), (5, .int (0 : Int32))]) (pc2 := 15) S dX3_afterDrafts_13 (by decide) [1, 2, 3, 4, 0] rfl rfl ?_
        obtain ⟨kk, hw⟩ := hw
        exact L15 x2 x4 (wp_X3_afterDrafts_L5 v0 x2 Q n) ih kk x3 (0 : Int32) hw
  refine v_iload_n (pc2 := 1) S 1 dX3_afterDrafts_0 rfl rfl rfl ?_
  refine v_istore_n (lv2 := [(0, .ref a0.1), (1, .int i0), (2, .int i1), (3, .int i0)]) (pc2 := 2) S dX3_afterDrafts_1 rfl (by decide) [1, 2, 3, 0] rfl rfl ?_
  refine v_iconst (v := 0) (pc2 := 3) S dX3_afterDrafts_2 (by decide) rfl ?_
  refine v_istore (lv2 := [(0, .ref a0.1), (1, .int i0), (2, .int i1), (3, .int i0), (4, .int (0 : Int32))]) (pc2 := 5) S dX3_afterDrafts_3 (by decide) [1, 2, 3, 4, 0] rfl rfl ?_
  refine v_lv [(0, .ref a0.1), (2, .int i1), (3, .int i0), (4, .int (0 : Int32))] [0, 2, 3, 4] rfl ?_
  obtain ⟨kk, hw⟩ := hw
  exact L5 i1 kk i0 (0 : Int32) hw
set_option maxHeartbeats 4000000 in
set_option maxRecDepth 100000 in
theorem c_X3_afterOpening (l : Launch) (G : GG) (a0 : LoomA) (v0 : LoomV) (i0 : Int32) (i1 : Int32) (Q : Int32 → Prop) (hw : wp_X3_afterOpening v0 i0 i1 Q) : Con l G yX3_afterOpening cX3_afterOpening 3 (some .int) { frames := 3, cells := 0, slots := 0, locals := 69 } [.ref a0.1, .int i0, .int i1] (wLoom G a0 v0.1 v0.2.1 v0.2.2.1 v0.2.2.2.1 v0.2.2.2.2.1 v0.2.2.2.2.2) (PI (fun _ : Unit => wLoom G a0 v0.1 v0.2.1 v0.2.2.1 v0.2.2.2.1 v0.2.2.2.2.1 v0.2.2.2.2.2) (fun r _ => Q r)) 0 0 := by
  refine con_of RX3 rfl (by decide) [(0, .ref a0.1), (1, .int i0), (2, .int i1)] rfl (Nat.le_of_ble_eq_true rfl) ?_
  intro p e s m args below meth c S hname
  refine v_aload_n (pc2 := 1) S 0 dX3_afterOpening_0 rfl rfl rfl ?_
  refine v_aload_n (pc2 := 2) S 0 dX3_afterOpening_1 rfl rfl rfl ?_
  refine v_iload_n (pc2 := 3) S 1 dX3_afterOpening_2 rfl rfl rfl ?_
  refine v_iload_n (pc2 := 4) S 2 dX3_afterOpening_3 rfl rfl rfl ?_
  refine v_callV (pc2 := 7) (As := [.int i0, .int i1]) (rest := [.ref a0.1]) S (c_X3_afterCords l G a0 v0 i0 i1 _ hw) mf_X3_afterCords u_362 u_363 u_364 0 3 rfl rfl rfl rfl ⟨rfl, rfl⟩ ⟨Nat.le_of_ble_eq_true rfl, Nat.le_of_ble_eq_true rfl⟩ ⟨Nat.le_of_ble_eq_true rfl, Nat.le_of_ble_eq_true rfl⟩ (Nat.le_of_ble_eq_true rfl) dX3_afterOpening_4 (frW _) rfl (pi (fun r1 u2 hw => ?_))
  refine v_to (wLoom G a0 v0.1 v0.2.1 v0.2.2.1 v0.2.2.2.1 v0.2.2.2.2.1 v0.2.2.2.2.2) 7 [(0, .ref a0.1), (1, .int i0), (2, .int i1)] _ [.int r1, .ref a0.1] rfl rfl rfl rfl ?_
  refine v_iload_n (pc2 := 8) S 2 dX3_afterOpening_7 rfl rfl rfl ?_
  refine v_callV (pc2 := 11) (As := [.int r1, .int i1]) (rest := []) S (c_X3_afterDrafts l G a0 v0 r1 i1 _ hw) mf_X3_afterDrafts u_366 u_367 u_368 0 3 rfl rfl rfl rfl ⟨rfl, rfl⟩ ⟨Nat.le_of_ble_eq_true rfl, Nat.le_of_ble_eq_true rfl⟩ ⟨Nat.le_of_ble_eq_true rfl, Nat.le_of_ble_eq_true rfl⟩ (Nat.le_of_ble_eq_true rfl) dX3_afterOpening_8 (frW _) rfl (pi (fun r3 u4 hw => ?_))
  refine v_to (wLoom G a0 v0.1 v0.2.1 v0.2.2.1 v0.2.2.2.1 v0.2.2.2.2.1 v0.2.2.2.2.2) 11 [(0, .ref a0.1), (1, .int i0), (2, .int i1)] _ [.int r3] rfl rfl rfl rfl ?_
  exact v_iret S ⟨r3, (), rfl, rfl, hw⟩ dX3_afterOpening_11
set_option maxHeartbeats 4000000 in
set_option maxRecDepth 100000 in
theorem c_X3_hallsFrom (l : Launch) (G : GG) (a0 : LoomA) (v0 : LoomV) (i0 : Int32) (i1 : Int32) (Q : Int32 → Prop) (hw : wp_X3_hallsFrom v0 i0 i1 Q) : Con l G yX3_hallsFrom cX3_hallsFrom 7 (some .int) { frames := 1, cells := 0, slots := 0, locals := 21 } [.ref a0.1, .int i0, .int i1] (wLoom G a0 v0.1 v0.2.1 v0.2.2.1 v0.2.2.2.1 v0.2.2.2.2.1 v0.2.2.2.2.2) (PI (fun _ : Unit => wLoom G a0 v0.1 v0.2.1 v0.2.2.1 v0.2.2.2.1 v0.2.2.2.2.1 v0.2.2.2.2.2) (fun r _ => Q r)) 0 0 := by
  refine con_of RX3 rfl (by decide) [(0, .ref a0.1), (1, .int i0), (2, .int i1)] rfl (Nat.le_of_ble_eq_true rfl) ?_
  intro p e s m args below meth c S hname
  have L17 : ∀ (x2 : Int32) (x4 : Int32) (K7 : Int32 → Int32 → Prop) (hK7 : ∀ (y0 : Int32) (y1 : Int32), K7 y0 y1 → V p l e { frames := 1, cells := 0, slots := 0, locals := 21 } s m args below meth c G (va_A (wLoom G a0 v0.1 v0.2.1 v0.2.2.1 v0.2.2.2.1 v0.2.2.2.2.1 v0.2.2.2.2.2) s.heap.size) 7 0 0 (MQ below (EQ G (wLoom G a0 v0.1 v0.2.1 v0.2.2.1 v0.2.2.2.1 v0.2.2.2.2.1 v0.2.2.2.2.2) s.heap.size (PI (fun _ : Unit => wLoom G a0 v0.1 v0.2.1 v0.2.2.1 v0.2.2.2.1 v0.2.2.2.2.1 v0.2.2.2.2.2) (fun r _ => Q r))) args s 0 0 (va_A (wLoom G a0 v0.1 v0.2.1 v0.2.2.1 v0.2.2.2.1 v0.2.2.2.2.1 v0.2.2.2.2.2) s.heap.size)) (wLoom G a0 v0.1 v0.2.1 v0.2.2.1 v0.2.2.2.1 v0.2.2.2.2.1 v0.2.2.2.2.2) 7 [(0, .ref a0.1), (2, .int x2), (3, .int y0), (4, .int y1)] []) (kk : Nat) (x3 : Int32) (x5 : Int32), wp_X3_hallsFrom_L17 v0 x2 x4 Q K7 kk x3 x5 → V p l e { frames := 1, cells := 0, slots := 0, locals := 21 } s m args below meth c G (va_A (wLoom G a0 v0.1 v0.2.1 v0.2.2.1 v0.2.2.2.1 v0.2.2.2.2.1 v0.2.2.2.2.2) s.heap.size) 7 0 0 (MQ below (EQ G (wLoom G a0 v0.1 v0.2.1 v0.2.2.1 v0.2.2.2.1 v0.2.2.2.2.1 v0.2.2.2.2.2) s.heap.size (PI (fun _ : Unit => wLoom G a0 v0.1 v0.2.1 v0.2.2.1 v0.2.2.2.1 v0.2.2.2.2.1 v0.2.2.2.2.2) (fun r _ => Q r))) args s 0 0 (va_A (wLoom G a0 v0.1 v0.2.1 v0.2.2.1 v0.2.2.2.1 v0.2.2.2.2.1 v0.2.2.2.2.2) s.heap.size)) (wLoom G a0 v0.1 v0.2.1 v0.2.2.1 v0.2.2.2.1 v0.2.2.2.2.1 v0.2.2.2.2.2) 17 [(0, .ref a0.1), (2, .int x2), (3, .int x3), (4, .int x4), (5, .int x5)] [] := by
    intro x2 x4 K7 hK7 kk
    induction kk with
    | zero => intro x3 x5 hw; exact hw.elim
    | succ n ih =>
      intro x3 x5 hw
      refine v_iload (pc2 := 19) S 4 dX3_hallsFrom_17 rfl rfl ?_
      refine v_bipush (v := 10) (pc2 := 21) S dX3_hallsFrom_19 (by decide) rfl ?_
      refine v_icmp_ge (pc2 := 24) (tgt := 72) S dX3_hallsFrom_21 (by decide) rfl (fun c3 => ?_) (fun c3 => ?_)
      · have hw := hw.1 c3
        obtain ⟨z4, ez4⟩ : ∃ y : Int32, y = x4 + (1 : Int32) := ⟨_, rfl⟩
        have hw := hw z4 ez4
        refine v_iinc (v := z4) (lv2 := [(0, .ref a0.1), (2, .int x2), (3, .int x3), (4, .int z4), (5, .int x5)]) (pc2 := 75) S 3 dX3_hallsFrom_72 rfl (by rw [ez4]; rfl) (by decide) [1, 2, 3, 0, 4] rfl rfl ?_
        refine v_goto (tgt := 7) S dX3_hallsFrom_75 (by decide) ?_
        refine v_lv [(0, .ref a0.1), (2, .int x2), (3, .int x3), (4, .int z4)] [0, 1, 2, 3] rfl ?_
        exact hK7 x3 z4 hw
      · have hw := hw.2 c3
        refine v_iconst (v := 1) (pc2 := 25) S dX3_hallsFrom_24 (by decide) rfl ?_
        refine v_aload_n (pc2 := 26) S 0 dX3_hallsFrom_25 rfl rfl rfl ?_
        refine v_get (v := .ref a0.2.2.2.1) (pc2 := 29) S gf_X3_18 0 rfl rfl dX3_hallsFrom_26 rfl ?_
        refine v_iload (pc2 := 31) S 4 dX3_hallsFrom_29 rfl rfl ?_
        obtain ⟨h5, hw⟩ := hw
        refine v_iald (pc2 := 32) S 3 rfl h5 dX3_hallsFrom_31 rfl ?_
        refine v_ishl (pc2 := 33) S dX3_hallsFrom_32 rfl ?_
        refine v_iconst (v := 1) (pc2 := 34) S dX3_hallsFrom_33 (by decide) rfl ?_
        refine v_aload_n (pc2 := 35) S 0 dX3_hallsFrom_34 rfl rfl rfl ?_
        refine v_get (v := .ref a0.2.2.2.2.1) (pc2 := 38) S gf_X3_21 0 rfl rfl dX3_hallsFrom_35 rfl ?_
        refine v_iload (pc2 := 40) S 4 dX3_hallsFrom_38 rfl rfl ?_
        obtain ⟨h6, hw⟩ := hw
        refine v_iald (pc2 := 41) S 4 rfl h6 dX3_hallsFrom_40 rfl ?_
        refine v_ishl (pc2 := 42) S dX3_hallsFrom_41 rfl ?_
        refine v_ior (pc2 := 43) S dX3_hallsFrom_42 rfl ?_
        refine v_nm (fun z7 ez7 => ?_)
        have hw := hw z7 ez7
        refine v_istore (lv2 := [(0, .ref a0.1), (2, .int x2), (3, .int x3), (4, .int x4), (5, .int x5), (6, .int z7)]) (pc2 := 45) S dX3_hallsFrom_43 (by decide) [1, 2, 3, 4, 5, 0] rfl rfl ?_
        refine v_iload_n (pc2 := 46) S 1 dX3_hallsFrom_45 rfl rfl rfl ?_
        refine v_iload (pc2 := 48) S 4 dX3_hallsFrom_46 rfl rfl ?_
        refine v_callSN (pc2 := 51) (As := [.int x2, .int x5]) (rest := []) S (c_X8_has l G x2 x5 _ hw) mf_X8_has u_290 u_276 rfl rfl ⟨rfl, rfl⟩ ⟨Nat.le_of_ble_eq_true rfl, Nat.le_of_ble_eq_true rfl⟩ ⟨Nat.le_of_ble_eq_true rfl, Nat.le_of_ble_eq_true rfl⟩ (Nat.le_of_ble_eq_true rfl) dX3_hallsFrom_48 (frM [] [] _) rfl (pb (fun r8 u9 br8 hw => ?_))
        refine v_to (wLoom G a0 v0.1 v0.2.1 v0.2.2.1 v0.2.2.2.1 v0.2.2.2.2.1 v0.2.2.2.2.2) 51 [(0, .ref a0.1), (2, .int x2), (3, .int x3), (4, .int x4), (5, .int x5), (6, .int z7)] _ [.int r8] rfl rfl rfl rfl ?_
        refine v_if_eq (pc2 := 54) (tgt := 66) S dX3_hallsFrom_51 (by decide) rfl (fun c10 => ?_) (fun c10 => ?_)
        · have hw := hw.1 c10
          obtain ⟨z11, ez11⟩ : ∃ y : Int32, y = x5 + (1 : Int32) := ⟨_, rfl⟩
          have hw := hw z11 ez11
          refine v_iinc (v := z11) (lv2 := [(0, .ref a0.1), (2, .int x2), (3, .int x3), (4, .int x4), (5, .int z11), (6, .int z7)]) (pc2 := 69) S 4 dX3_hallsFrom_66 rfl (by rw [ez11]; rfl) (by decide) [1, 2, 3, 4, 0, 5] rfl rfl ?_
          refine v_goto (tgt := 17) S dX3_hallsFrom_69 (by decide) ?_
          refine v_lv [(0, .ref a0.1), (2, .int x2), (3, .int x3), (4, .int x4), (5, .int z11)] [0, 1, 2, 3, 4] rfl ?_
          exact ih x3 z11 hw
        · have hw := hw.2 c10
          refine v_iload_n (pc2 := 55) S 2 dX3_hallsFrom_54 rfl rfl rfl ?_
          refine v_iload (pc2 := 57) S 5 dX3_hallsFrom_55 rfl rfl ?_
          refine v_iand (pc2 := 58) S dX3_hallsFrom_57 rfl ?_
          refine v_if_eq (pc2 := 61) (tgt := 66) S dX3_hallsFrom_58 (by decide) rfl (fun c12 => ?_) (fun c12 => ?_)
          · have hw := hw.1 c12
            obtain ⟨z13, ez13⟩ : ∃ y : Int32, y = x5 + (1 : Int32) := ⟨_, rfl⟩
            have hw := hw z13 ez13
            refine v_iinc (v := z13) (lv2 := [(0, .ref a0.1), (2, .int x2), (3, .int x3), (4, .int x4), (5, .int z13), (6, .int z7)]) (pc2 := 69) S 4 dX3_hallsFrom_66 rfl (by rw [ez13]; rfl) (by decide) [1, 2, 3, 4, 0, 5] rfl rfl ?_
            refine v_goto (tgt := 17) S dX3_hallsFrom_69 (by decide) ?_
            refine v_lv [(0, .ref a0.1), (2, .int x2), (3, .int x3), (4, .int x4), (5, .int z13)] [0, 1, 2, 3, 4] rfl ?_
            exact ih x3 z13 hw
          · have hw := hw.2 c12
            refine v_iload_n (pc2 := 62) S 2 dX3_hallsFrom_61 rfl rfl rfl ?_
            refine v_iload (pc2 := 64) S 5 dX3_hallsFrom_62 rfl rfl ?_
            refine v_ior (pc2 := 65) S dX3_hallsFrom_64 rfl ?_
            refine v_nm (fun z14 ez14 => ?_)
            have hw := hw z14 ez14
            refine v_istore_n (lv2 := [(0, .ref a0.1), (2, .int x2), (3, .int z14), (4, .int x4), (5, .int x5), (6, .int z7)]) (pc2 := 66) S dX3_hallsFrom_65 rfl (by decide) [1, 2, 0, 3, 4, 5] rfl rfl ?_
            obtain ⟨z15, ez15⟩ : ∃ y : Int32, y = x5 + (1 : Int32) := ⟨_, rfl⟩
            have hw := hw z15 ez15
            refine v_iinc (v := z15) (lv2 := [(0, .ref a0.1), (2, .int x2), (3, .int z14), (4, .int x4), (5, .int z15), (6, .int z7)]) (pc2 := 69) S 4 dX3_hallsFrom_66 rfl (by rw [ez15]; rfl) (by decide) [1, 2, 3, 4, 0, 5] rfl rfl ?_
            refine v_goto (tgt := 17) S dX3_hallsFrom_69 (by decide) ?_
            refine v_lv [(0, .ref a0.1), (2, .int x2), (3, .int z14), (4, .int x4), (5, .int z15)] [0, 1, 2, 3, 4] rfl ?_
            exact ih z14 z15 hw
  have L7 : ∀ (x2 : Int32) (kk : Nat) (x3 : Int32) (x4 : Int32), wp_X3_hallsFrom_L7 v0 x2 Q kk x3 x4 → V p l e { frames := 1, cells := 0, slots := 0, locals := 21 } s m args below meth c G (va_A (wLoom G a0 v0.1 v0.2.1 v0.2.2.1 v0.2.2.2.1 v0.2.2.2.2.1 v0.2.2.2.2.2) s.heap.size) 7 0 0 (MQ below (EQ G (wLoom G a0 v0.1 v0.2.1 v0.2.2.1 v0.2.2.2.1 v0.2.2.2.2.1 v0.2.2.2.2.2) s.heap.size (PI (fun _ : Unit => wLoom G a0 v0.1 v0.2.1 v0.2.2.1 v0.2.2.2.1 v0.2.2.2.2.1 v0.2.2.2.2.2) (fun r _ => Q r))) args s 0 0 (va_A (wLoom G a0 v0.1 v0.2.1 v0.2.2.1 v0.2.2.2.1 v0.2.2.2.2.1 v0.2.2.2.2.2) s.heap.size)) (wLoom G a0 v0.1 v0.2.1 v0.2.2.1 v0.2.2.2.1 v0.2.2.2.2.1 v0.2.2.2.2.2) 7 [(0, .ref a0.1), (2, .int x2), (3, .int x3), (4, .int x4)] [] := by
    intro x2 kk
    induction kk with
    | zero => intro x3 x4 hw; exact hw.elim
    | succ n ih =>
      intro x3 x4 hw
      refine v_iload (pc2 := 9) S 3 dX3_hallsFrom_7 rfl rfl ?_
      refine v_bipush (v := 6) (pc2 := 11) S dX3_hallsFrom_9 (by decide) rfl ?_
      refine v_icmp_ge (pc2 := 14) (tgt := 78) S dX3_hallsFrom_11 (by decide) rfl (fun c2 => ?_) (fun c2 => ?_)
      · have hw := hw.1 c2
        refine v_iload_n (pc2 := 79) S 2 dX3_hallsFrom_78 rfl rfl rfl ?_
        exact v_iret S ⟨x3, (), rfl, rfl, hw⟩ dX3_hallsFrom_79
      · have hw := hw.2 c2
        refine v_iconst (v := 0) (pc2 := 15) S dX3_hallsFrom_14 (by decide) rfl ?_
        refine v_istore (lv2 := [(0, .ref a0.1), (2, .int x2), (3, .int x3), (4, .int x4), (5, .int (0 : Int32))]) (pc2 := 17) S dX3_hallsFrom_15 (by decide) [1, 2, 3, 4, 0] rfl rfl ?_
        obtain ⟨kk, hw⟩ := hw
        exact L17 x2 x4 (wp_X3_hallsFrom_L7 v0 x2 Q n) ih kk x3 (0 : Int32) hw
  refine v_iconst (v := 1) (pc2 := 1) S dX3_hallsFrom_0 (by decide) rfl ?_
  refine v_iload_n (pc2 := 2) S 1 dX3_hallsFrom_1 rfl rfl rfl ?_
  refine v_ishl (pc2 := 3) S dX3_hallsFrom_2 rfl ?_
  refine v_nm (fun z1 ez1 => ?_)
  have hw := hw z1 ez1
  refine v_istore_n (lv2 := [(0, .ref a0.1), (1, .int i0), (2, .int i1), (3, .int z1)]) (pc2 := 4) S dX3_hallsFrom_3 rfl (by decide) [1, 2, 3, 0] rfl rfl ?_
  refine v_iconst (v := 0) (pc2 := 5) S dX3_hallsFrom_4 (by decide) rfl ?_
  refine v_istore (lv2 := [(0, .ref a0.1), (1, .int i0), (2, .int i1), (3, .int z1), (4, .int (0 : Int32))]) (pc2 := 7) S dX3_hallsFrom_5 (by decide) [1, 2, 3, 4, 0] rfl rfl ?_
  refine v_lv [(0, .ref a0.1), (2, .int i1), (3, .int z1), (4, .int (0 : Int32))] [0, 2, 3, 4] rfl ?_
  obtain ⟨kk, hw⟩ := hw
  exact L7 i1 kk z1 (0 : Int32) hw
set_option maxHeartbeats 4000000 in
set_option maxRecDepth 100000 in
theorem c_X3_pairsOfHalls (l : Launch) (G : GG) (a0 : LoomA) (v0 : LoomV) (i0 : Int32) (Q : Int32 → Prop) (hw : wp_X3_pairsOfHalls v0 i0 Q) : Con l G yX3_pairsOfHalls cX3_pairsOfHalls 4 (some .int) { frames := 2, cells := 0, slots := 0, locals := 47 } [.ref a0.1, .int i0] (wLoom G a0 v0.1 v0.2.1 v0.2.2.1 v0.2.2.2.1 v0.2.2.2.2.1 v0.2.2.2.2.2) (PI (fun _ : Unit => wLoom G a0 v0.1 v0.2.1 v0.2.2.1 v0.2.2.2.1 v0.2.2.2.2.1 v0.2.2.2.2.2) (fun r _ => Q r)) 0 0 := by
  refine con_of RX3 rfl (by decide) [(0, .ref a0.1), (1, .int i0)] rfl (Nat.le_of_ble_eq_true rfl) ?_
  intro p e s m args below meth c S hname
  have L4 : ∀ (x1 : Int32) (kk : Nat) (x2 : Int32) (x3 : Int32), wp_X3_pairsOfHalls_L4 v0 x1 Q kk x2 x3 → V p l e { frames := 2, cells := 0, slots := 0, locals := 47 } s m args below meth c G (va_A (wLoom G a0 v0.1 v0.2.1 v0.2.2.1 v0.2.2.2.1 v0.2.2.2.2.1 v0.2.2.2.2.2) s.heap.size) 4 0 0 (MQ below (EQ G (wLoom G a0 v0.1 v0.2.1 v0.2.2.1 v0.2.2.2.1 v0.2.2.2.2.1 v0.2.2.2.2.2) s.heap.size (PI (fun _ : Unit => wLoom G a0 v0.1 v0.2.1 v0.2.2.1 v0.2.2.2.1 v0.2.2.2.2.1 v0.2.2.2.2.2) (fun r _ => Q r))) args s 0 0 (va_A (wLoom G a0 v0.1 v0.2.1 v0.2.2.1 v0.2.2.2.1 v0.2.2.2.2.1 v0.2.2.2.2.2) s.heap.size)) (wLoom G a0 v0.1 v0.2.1 v0.2.2.1 v0.2.2.2.1 v0.2.2.2.2.1 v0.2.2.2.2.2) 4 [(0, .ref a0.1), (1, .int x1), (2, .int x2), (3, .int x3)] [] := by
    intro x1 kk
    induction kk with
    | zero => intro x2 x3 hw; exact hw.elim
    | succ n ih =>
      intro x2 x3 hw
      refine v_iload_n (pc2 := 5) S 3 dX3_pairsOfHalls_4 rfl rfl rfl ?_
      refine v_bipush (v := 6) (pc2 := 7) S dX3_pairsOfHalls_5 (by decide) rfl ?_
      refine v_icmp_ge (pc2 := 10) (tgt := 30) S dX3_pairsOfHalls_7 (by decide) rfl (fun c1 => ?_) (fun c1 => ?_)
      · have hw := hw.1 c1
        refine v_iload_n (pc2 := 31) S 2 dX3_pairsOfHalls_30 rfl rfl rfl ?_
        refine v_iconst (v := 2) (pc2 := 32) S dX3_pairsOfHalls_31 (by decide) rfl ?_
        refine v_idiv (pc2 := 33) S (by decide) dX3_pairsOfHalls_32 rfl ?_
        exact v_iret S ⟨x2 / (2 : Int32), (), rfl, rfl, hw⟩ dX3_pairsOfHalls_33
      · have hw := hw.2 c1
        refine v_iload_n (pc2 := 11) S 2 dX3_pairsOfHalls_10 rfl rfl rfl ?_
        refine v_aload_n (pc2 := 12) S 0 dX3_pairsOfHalls_11 rfl rfl rfl ?_
        refine v_iload_n (pc2 := 13) S 3 dX3_pairsOfHalls_12 rfl rfl rfl ?_
        refine v_iload_n (pc2 := 14) S 1 dX3_pairsOfHalls_13 rfl rfl rfl ?_
        refine v_callV (pc2 := 17) (As := [.int x3, .int x1]) (rest := [.int x2]) S (c_X3_hallsFrom l G a0 v0 x3 x1 _ hw) mf_X3_hallsFrom u_416 u_417 u_418 0 3 rfl rfl rfl rfl ⟨rfl, rfl⟩ ⟨Nat.le_of_ble_eq_true rfl, Nat.le_of_ble_eq_true rfl⟩ ⟨Nat.le_of_ble_eq_true rfl, Nat.le_of_ble_eq_true rfl⟩ (Nat.le_of_ble_eq_true rfl) dX3_pairsOfHalls_14 (frW _) rfl (pi (fun r2 u3 hw => ?_))
        refine v_to (wLoom G a0 v0.1 v0.2.1 v0.2.2.1 v0.2.2.2.1 v0.2.2.2.2.1 v0.2.2.2.2.2) 17 [(0, .ref a0.1), (1, .int x1), (2, .int x2), (3, .int x3)] _ [.int r2, .int x2] rfl rfl rfl rfl ?_
        refine v_callS (pc2 := 20) (As := [.int r2]) (rest := [.int x2]) S (c_J6_bitCount_0f7a4 l G r2 _ hw) mf_J6_bitCount_0f7a4 u_311 u_312 rfl rfl ⟨rfl, rfl⟩ ⟨Nat.le_of_ble_eq_true rfl, Nat.le_of_ble_eq_true rfl⟩ ⟨Nat.le_of_ble_eq_true rfl, Nat.le_of_ble_eq_true rfl⟩ (Nat.le_of_ble_eq_true rfl) dX3_pairsOfHalls_17 (frM [] [] _) rfl (pi (fun r4 u5 hw => ?_))
        refine v_to (wLoom G a0 v0.1 v0.2.1 v0.2.2.1 v0.2.2.2.1 v0.2.2.2.2.1 v0.2.2.2.2.2) 20 [(0, .ref a0.1), (1, .int x1), (2, .int x2), (3, .int x3)] _ [.int r4, .int x2] rfl rfl rfl rfl ?_
        refine v_iconst (v := 1) (pc2 := 21) S dX3_pairsOfHalls_20 (by decide) rfl ?_
        refine v_isub (pc2 := 22) S dX3_pairsOfHalls_21 rfl ?_
        refine v_iadd (pc2 := 23) S dX3_pairsOfHalls_22 rfl ?_
        refine v_nm (fun z6 ez6 => ?_)
        have hw := hw z6 ez6
        refine v_istore_n (lv2 := [(0, .ref a0.1), (1, .int x1), (2, .int z6), (3, .int x3)]) (pc2 := 24) S dX3_pairsOfHalls_23 rfl (by decide) [1, 2, 0, 3] rfl rfl ?_
        obtain ⟨z7, ez7⟩ : ∃ y : Int32, y = x3 + (1 : Int32) := ⟨_, rfl⟩
        have hw := hw z7 ez7
        refine v_iinc (v := z7) (lv2 := [(0, .ref a0.1), (1, .int x1), (2, .int z6), (3, .int z7)]) (pc2 := 27) S 3 dX3_pairsOfHalls_24 rfl (by rw [ez7]; rfl) (by decide) [1, 2, 3, 0] rfl rfl ?_
        refine v_goto (tgt := 4) S dX3_pairsOfHalls_27 (by decide) ?_
        exact ih z6 z7 hw
  refine v_iconst (v := 0) (pc2 := 1) S dX3_pairsOfHalls_0 (by decide) rfl ?_
  refine v_istore_n (lv2 := [(0, .ref a0.1), (1, .int i0), (2, .int (0 : Int32))]) (pc2 := 2) S dX3_pairsOfHalls_1 rfl (by decide) [1, 2, 0] rfl rfl ?_
  refine v_iconst (v := 0) (pc2 := 3) S dX3_pairsOfHalls_2 (by decide) rfl ?_
  refine v_istore_n (lv2 := [(0, .ref a0.1), (1, .int i0), (2, .int (0 : Int32)), (3, .int (0 : Int32))]) (pc2 := 4) S dX3_pairsOfHalls_3 rfl (by decide) [1, 2, 3, 0] rfl rfl ?_
  obtain ⟨kk, hw⟩ := hw
  exact L4 i0 kk (0 : Int32) (0 : Int32) hw
set_option maxHeartbeats 4000000 in
set_option maxRecDepth 100000 in
theorem c_X8_isGuest (l : Launch) (G : GG) (i0 : Int32) (Q : Int32 → Prop) (hw : wp_X8_isGuest i0 Q) : Con l G yX8_isGuest cX8_isGuest 1 (some .boolean) { frames := 0, cells := 0, slots := 0, locals := 0 } [.int i0] ([]) (PB (fun _ : Unit => []) (fun r _ => Q r)) 0 0 := by
  refine con_of RX8 rfl (by decide) [(0, .int i0)] rfl (Nat.le_of_ble_eq_true rfl) ?_
  intro p e s m args below meth c S hname
  refine v_iload_n (pc2 := 1) S 0 dX8_isGuest_0 rfl rfl rfl ?_
  refine v_if_lt (pc2 := 4) (tgt := 13) S dX8_isGuest_1 (by decide) rfl (fun c1 => ?_) (fun c1 => ?_)
  · have hw := hw.1 c1
    refine v_iconst (v := 0) (pc2 := 14) S dX8_isGuest_13 (by decide) rfl ?_
    exact v_zret S (by decide) ⟨(0 : Int32), (), rfl, (by decide), rfl, hw⟩ dX8_isGuest_14
  · have hw := hw.2 c1
    refine v_iload_n (pc2 := 5) S 0 dX8_isGuest_4 rfl rfl rfl ?_
    refine v_iconst (v := 3) (pc2 := 6) S dX8_isGuest_5 (by decide) rfl ?_
    refine v_icmp_ge (pc2 := 9) (tgt := 13) S dX8_isGuest_6 (by decide) rfl (fun c2 => ?_) (fun c2 => ?_)
    · have hw := hw.1 c2
      refine v_iconst (v := 0) (pc2 := 14) S dX8_isGuest_13 (by decide) rfl ?_
      exact v_zret S (by decide) ⟨(0 : Int32), (), rfl, (by decide), rfl, hw⟩ dX8_isGuest_14
    · have hw := hw.2 c2
      refine v_iconst (v := 1) (pc2 := 10) S dX8_isGuest_9 (by decide) rfl ?_
      refine v_goto (tgt := 14) S dX8_isGuest_10 (by decide) ?_
      exact v_zret S (by decide) ⟨(1 : Int32), (), rfl, (by decide), rfl, hw⟩ dX8_isGuest_14
set_option maxHeartbeats 4000000 in
set_option maxRecDepth 100000 in
theorem c_X8_isDoor (l : Launch) (G : GG) (i0 : Int32) (Q : Int32 → Prop) (hw : wp_X8_isDoor i0 Q) : Con l G yX8_isDoor cX8_isDoor 1 (some .boolean) { frames := 0, cells := 0, slots := 0, locals := 0 } [.int i0] ([]) (PB (fun _ : Unit => []) (fun r _ => Q r)) 0 0 := by
  refine con_of RX8 rfl (by decide) [(0, .int i0)] rfl (Nat.le_of_ble_eq_true rfl) ?_
  intro p e s m args below meth c S hname
  refine v_iload_n (pc2 := 1) S 0 dX8_isDoor_0 rfl rfl rfl ?_
  refine v_if_lt (pc2 := 4) (tgt := 14) S dX8_isDoor_1 (by decide) rfl (fun c1 => ?_) (fun c1 => ?_)
  · have hw := hw.1 c1
    refine v_iconst (v := 0) (pc2 := 15) S dX8_isDoor_14 (by decide) rfl ?_
    exact v_zret S (by decide) ⟨(0 : Int32), (), rfl, (by decide), rfl, hw⟩ dX8_isDoor_15
  · have hw := hw.2 c1
    refine v_iload_n (pc2 := 5) S 0 dX8_isDoor_4 rfl rfl rfl ?_
    refine v_bipush (v := 10) (pc2 := 7) S dX8_isDoor_5 (by decide) rfl ?_
    refine v_icmp_ge (pc2 := 10) (tgt := 14) S dX8_isDoor_7 (by decide) rfl (fun c2 => ?_) (fun c2 => ?_)
    · have hw := hw.1 c2
      refine v_iconst (v := 0) (pc2 := 15) S dX8_isDoor_14 (by decide) rfl ?_
      exact v_zret S (by decide) ⟨(0 : Int32), (), rfl, (by decide), rfl, hw⟩ dX8_isDoor_15
    · have hw := hw.2 c2
      refine v_iconst (v := 1) (pc2 := 11) S dX8_isDoor_10 (by decide) rfl ?_
      refine v_goto (tgt := 15) S dX8_isDoor_11 (by decide) ?_
      exact v_zret S (by decide) ⟨(1 : Int32), (), rfl, (by decide), rfl, hw⟩ dX8_isDoor_15
set_option maxHeartbeats 4000000 in
set_option maxRecDepth 100000 in
theorem c_J7_fill_53178 (l : Launch) (G : GG) (N0 : Nat) (a0 : Nat) (v0 : (Nat → Int32)) (i0 : Int32) (Q : (Nat → Int32) → Prop) (hw : wp_J7_fill_53178 N0 v0 i0 Q) : Con l G yJ7_fill_53178 cJ7_fill_53178 4 none { frames := 0, cells := 0, slots := 0, locals := 0 } [.ref a0, .int i0] ([(a0, .inl (G.2.1, N0, .inl v0))]) (PV (fun u : (Nat → Int32) => [(a0, .inl (G.2.1, N0, .inl u))]) Q) 0 0 := by
  refine con_of RJ7 rfl (by decide) [(0, .ref a0), (1, .int i0)] rfl (Nat.le_of_ble_eq_true rfl) ?_
  intro p e s m args below meth c S hname
  have L5 : ∀ (x1 : Int32) (x3 : Int32) (kk : Nat) (x2 : Int32) (w0 : (Nat → Int32)), wp_J7_fill_53178_L5 N0 x1 x3 Q kk x2 w0 → V p l e { frames := 0, cells := 0, slots := 0, locals := 0 } s m args below meth c G (va_A ([(a0, .inl (G.2.1, N0, .inl v0))]) s.heap.size) 4 0 0 (MQ below (EQ G ([(a0, .inl (G.2.1, N0, .inl v0))]) s.heap.size (PV (fun u : (Nat → Int32) => [(a0, .inl (G.2.1, N0, .inl u))]) Q)) args s 0 0 (va_A ([(a0, .inl (G.2.1, N0, .inl v0))]) s.heap.size)) ([(a0, .inl (G.2.1, N0, .inl w0))]) 5 [(0, .ref a0), (1, .int x1), (2, .int x2), (3, .int x3)] [] := by
    intro x1 x3 kk
    induction kk with
    | zero => intro x2 w0 hw; exact hw.elim
    | succ n ih =>
      intro x2 w0 hw
      refine v_iload_n (pc2 := 6) S 2 dJ7_fill_53178_5 rfl rfl rfl ?_
      refine v_iload_n (pc2 := 7) S 3 dJ7_fill_53178_6 rfl rfl rfl ?_
      refine v_icmp_ge (pc2 := 10) (tgt := 20) S dJ7_fill_53178_7 (by decide) rfl (fun c2 => ?_) (fun c2 => ?_)
      · have hw := hw.1 c2
        exact v_vret S ⟨w0, rfl, rfl, hw⟩ dJ7_fill_53178_20
      · have hw := hw.2 c2
        refine v_aload_n (pc2 := 11) S 0 dJ7_fill_53178_10 rfl rfl rfl ?_
        refine v_iload_n (pc2 := 12) S 2 dJ7_fill_53178_11 rfl rfl rfl ?_
        refine v_iload_n (pc2 := 13) S 1 dJ7_fill_53178_12 rfl rfl rfl ?_
        obtain ⟨h3, hw⟩ := hw
        obtain ⟨g4, eg4⟩ : ∃ y : Nat → Int32, y = upd w0 x2.toNatClampNeg x1 := ⟨_, rfl⟩
        have hw := hw g4 eg4
        refine v_iast (ws2 := [(a0, .inl (G.2.1, N0, .inl g4))]) (pc2 := 14) S 0 rfl h3 (by rw [eg4] <;> rfl) dJ7_fill_53178_13 rfl ?_
        obtain ⟨z5, ez5⟩ : ∃ y : Int32, y = x2 + (1 : Int32) := ⟨_, rfl⟩
        have hw := hw z5 ez5
        refine v_iinc (v := z5) (lv2 := [(0, .ref a0), (1, .int x1), (2, .int z5), (3, .int x3)]) (pc2 := 17) S 2 dJ7_fill_53178_14 rfl (by rw [ez5]; rfl) (by decide) [1, 2, 0, 3] rfl rfl ?_
        refine v_goto (tgt := 5) S dJ7_fill_53178_17 (by decide) ?_
        exact ih z5 g4 hw
  refine v_iconst (v := 0) (pc2 := 1) S dJ7_fill_53178_0 (by decide) rfl ?_
  refine v_istore_n (lv2 := [(0, .ref a0), (1, .int i0), (2, .int (0 : Int32))]) (pc2 := 2) S dJ7_fill_53178_1 rfl (by decide) [1, 2, 0] rfl rfl ?_
  refine v_aload_n (pc2 := 3) S 0 dJ7_fill_53178_2 rfl rfl rfl ?_
  refine v_alen (pc2 := 4) S 0 rfl rfl dJ7_fill_53178_3 rfl ?_
  refine v_nm (fun z1 ez1 => ?_)
  have hw := hw z1 ez1
  refine v_istore_n (lv2 := [(0, .ref a0), (1, .int i0), (2, .int (0 : Int32)), (3, .int z1)]) (pc2 := 5) S dJ7_fill_53178_4 rfl (by decide) [1, 2, 3, 0] rfl rfl ?_
  obtain ⟨kk, hw⟩ := hw
  exact L5 i0 z1 kk (0 : Int32) v0 hw
set_option maxHeartbeats 4000000 in
set_option maxRecDepth 100000 in
theorem c_X8_spot (l : Launch) (G : GG) (i0 : Int32) (i1 : Int32) (Q : Int32 → Prop) (hw : wp_X8_spot i0 i1 Q) : Con l G yX8_spot cX8_spot 2 (some .int) { frames := 0, cells := 0, slots := 0, locals := 0 } [.int i0, .int i1] ([]) (PI (fun _ : Unit => []) (fun r _ => Q r)) 0 0 := by
  refine con_of RX8 rfl (by decide) [(0, .int i0), (1, .int i1)] rfl (Nat.le_of_ble_eq_true rfl) ?_
  intro p e s m args below meth c S hname
  refine v_iload_n (pc2 := 1) S 0 dX8_spot_0 rfl rfl rfl ?_
  refine v_bipush (v := 6) (pc2 := 3) S dX8_spot_1 (by decide) rfl ?_
  refine v_imul (pc2 := 4) S dX8_spot_3 rfl ?_
  refine v_iload_n (pc2 := 5) S 1 dX8_spot_4 rfl rfl rfl ?_
  refine v_iadd (pc2 := 6) S dX8_spot_5 rfl ?_
  exact v_iret S ⟨(i0 * (6 : Int32)) + i1, (), rfl, rfl, hw⟩ dX8_spot_6
set_option maxHeartbeats 4000000 in
set_option maxRecDepth 100000 in
theorem c_X8_isHall (l : Launch) (G : GG) (i0 : Int32) (Q : Int32 → Prop) (hw : wp_X8_isHall i0 Q) : Con l G yX8_isHall cX8_isHall 1 (some .boolean) { frames := 0, cells := 0, slots := 0, locals := 0 } [.int i0] ([]) (PB (fun _ : Unit => []) (fun r _ => Q r)) 0 0 := by
  refine con_of RX8 rfl (by decide) [(0, .int i0)] rfl (Nat.le_of_ble_eq_true rfl) ?_
  intro p e s m args below meth c S hname
  refine v_iload_n (pc2 := 1) S 0 dX8_isHall_0 rfl rfl rfl ?_
  refine v_if_lt (pc2 := 4) (tgt := 14) S dX8_isHall_1 (by decide) rfl (fun c1 => ?_) (fun c1 => ?_)
  · have hw := hw.1 c1
    refine v_iconst (v := 0) (pc2 := 15) S dX8_isHall_14 (by decide) rfl ?_
    exact v_zret S (by decide) ⟨(0 : Int32), (), rfl, (by decide), rfl, hw⟩ dX8_isHall_15
  · have hw := hw.2 c1
    refine v_iload_n (pc2 := 5) S 0 dX8_isHall_4 rfl rfl rfl ?_
    refine v_bipush (v := 6) (pc2 := 7) S dX8_isHall_5 (by decide) rfl ?_
    refine v_icmp_ge (pc2 := 10) (tgt := 14) S dX8_isHall_7 (by decide) rfl (fun c2 => ?_) (fun c2 => ?_)
    · have hw := hw.1 c2
      refine v_iconst (v := 0) (pc2 := 15) S dX8_isHall_14 (by decide) rfl ?_
      exact v_zret S (by decide) ⟨(0 : Int32), (), rfl, (by decide), rfl, hw⟩ dX8_isHall_15
    · have hw := hw.2 c2
      refine v_iconst (v := 1) (pc2 := 11) S dX8_isHall_10 (by decide) rfl ?_
      refine v_goto (tgt := 15) S dX8_isHall_11 (by decide) ?_
      exact v_zret S (by decide) ⟨(1 : Int32), (), rfl, (by decide), rfl, hw⟩ dX8_isHall_15
set_option maxHeartbeats 4000000 in
set_option maxRecDepth 100000 in
theorem c_X8_isSetOfDoors (l : Launch) (G : GG) (i0 : Int32) (Q : Int32 → Prop) (hw : wp_X8_isSetOfDoors i0 Q) : Con l G yX8_isSetOfDoors cX8_isSetOfDoors 1 (some .boolean) { frames := 0, cells := 0, slots := 0, locals := 0 } [.int i0] ([]) (PB (fun _ : Unit => []) (fun r _ => Q r)) 0 0 := by
  refine con_of RX8 rfl (by decide) [(0, .int i0)] rfl (Nat.le_of_ble_eq_true rfl) ?_
  intro p e s m args below meth c S hname
  refine v_iload_n (pc2 := 1) S 0 dX8_isSetOfDoors_0 rfl rfl rfl ?_
  refine v_if_lt (pc2 := 4) (tgt := 15) S dX8_isSetOfDoors_1 (by decide) rfl (fun c1 => ?_) (fun c1 => ?_)
  · have hw := hw.1 c1
    refine v_iconst (v := 0) (pc2 := 16) S dX8_isSetOfDoors_15 (by decide) rfl ?_
    exact v_zret S (by decide) ⟨(0 : Int32), (), rfl, (by decide), rfl, hw⟩ dX8_isSetOfDoors_16
  · have hw := hw.2 c1
    refine v_iload_n (pc2 := 5) S 0 dX8_isSetOfDoors_4 rfl rfl rfl ?_
    refine v_sipush (v := 1023) (pc2 := 8) S dX8_isSetOfDoors_5 (by decide) rfl ?_
    refine v_icmp_gt (pc2 := 11) (tgt := 15) S dX8_isSetOfDoors_8 (by decide) rfl (fun c2 => ?_) (fun c2 => ?_)
    · have hw := hw.1 c2
      refine v_iconst (v := 0) (pc2 := 16) S dX8_isSetOfDoors_15 (by decide) rfl ?_
      exact v_zret S (by decide) ⟨(0 : Int32), (), rfl, (by decide), rfl, hw⟩ dX8_isSetOfDoors_16
    · have hw := hw.2 c2
      refine v_iconst (v := 1) (pc2 := 12) S dX8_isSetOfDoors_11 (by decide) rfl ?_
      refine v_goto (tgt := 16) S dX8_isSetOfDoors_12 (by decide) ?_
      exact v_zret S (by decide) ⟨(1 : Int32), (), rfl, (by decide), rfl, hw⟩ dX8_isSetOfDoors_16
set_option maxHeartbeats 4000000 in
set_option maxRecDepth 100000 in
theorem c_X8_doorOrNotFound (l : Launch) (G : GG) (i0 : Int32) (Q : Int32 → Prop) (hw : wp_X8_doorOrNotFound i0 Q) : Con l G yX8_doorOrNotFound cX8_doorOrNotFound 1 (some .int) { frames := 0, cells := 0, slots := 0, locals := 0 } [.int i0] ([]) (PI (fun _ : Unit => []) (fun r _ => Q r)) 0 0 := by
  refine con_of RX8 rfl (by decide) [(0, .int i0)] rfl (Nat.le_of_ble_eq_true rfl) ?_
  intro p e s m args below meth c S hname
  refine v_iload_n (pc2 := 1) S 0 dX8_doorOrNotFound_0 rfl rfl rfl ?_
  refine v_bipush (v := 10) (pc2 := 3) S dX8_doorOrNotFound_1 (by decide) rfl ?_
  refine v_icmp_ne (pc2 := 6) (tgt := 11) S dX8_doorOrNotFound_3 (by decide) rfl (fun c1 => ?_) (fun c1 => ?_)
  · have hw := hw.1 c1
    refine v_iload_n (pc2 := 12) S 0 dX8_doorOrNotFound_11 rfl rfl rfl ?_
    exact v_iret S ⟨i0, (), rfl, rfl, hw⟩ dX8_doorOrNotFound_12
  · have hw := hw.2 c1
    refine v_bipush (v := -4) (pc2 := 8) S dX8_doorOrNotFound_6 (by decide) rfl ?_
    refine v_goto (tgt := 12) S dX8_doorOrNotFound_8 (by decide) ?_
    exact v_iret S ⟨(-4 : Int32), (), rfl, rfl, hw⟩ dX8_doorOrNotFound_12
