def wp_L_law_B248 (xs : (Nat → Int32)) (L : Nat) (x3 : Int32) (t0 : Int32) (t2 : Int32) (t3 : Int32) (w0 : CDV) (w1 : ModV) (Q : Prop) (K18 : Int32 → CDV → ModV → Prop) : Prop := vp_in (x3 + (3 : Int32)) L ∧ (wp_X9_cord w1 t2 t3 (xs (x3 + (3 : Int32)).toNatClampNeg) (fun r41 u42 => ((t0 = r41) → ∀ z44 : Int32, z44 = x3 + (4 : Int32) → K18 z44 w0 u42) ∧ ((¬ t0 = r41) → False)))
def wp_L_law_B221 (xs : (Nat → Int32)) (L : Nat) (x3 : Int32) (t1 : Int32) (t2 : Int32) (w0 : CDV) (w1 : ModV) (Q : Prop) (K18 : Int32 → CDV → ModV → Prop) : Prop := vp_in (x3 + (3 : Int32)) L ∧ (wp_X8_cord w0 t1 t2 (xs (x3 + (3 : Int32)).toNatClampNeg) (fun r35 u36 => vp_in (x3 + (1 : Int32)) L ∧ (vp_in (x3 + (2 : Int32)) L ∧ ((((xs (x3 + (2 : Int32)).toNatClampNeg) = 0) → wp_L_law_B248 xs L x3 r35 (xs (x3 + (1 : Int32)).toNatClampNeg) (0 : Int32) u36 w1 Q K18) ∧ ((¬ (xs (x3 + (2 : Int32)).toNatClampNeg) = 0) → wp_L_law_B248 xs L x3 r35 (xs (x3 + (1 : Int32)).toNatClampNeg) (1 : Int32) u36 w1 Q K18)))))
def wp_L_law_L18 (xs : (Nat → Int32)) (L : Nat) (Q : Prop) : Nat → Int32 → CDV → ModV → Prop
  | 0, _, _, _ => False
  | n + 1, x3, w0, w1 => ((((Int32.ofNat L) - (4 : Int32)) < x3) → True) ∧ ((¬ ((Int32.ofNat L) - (4 : Int32)) < x3) → vp_in x3 L ∧ (∀ z11 : Int32, z11 = (xs x3.toNatClampNeg) &&& (31 : Int32) → ((z11 = (0 : Int32) → vp_in (x3 + (1 : Int32)) L ∧ (wp_X8_open w0 (xs (x3 + (1 : Int32)).toNatClampNeg) (fun r14 u15 => vp_in (x3 + (1 : Int32)) L ∧ (wp_X9_open w1 (xs (x3 + (1 : Int32)).toNatClampNeg) (fun r17 u18 => ((r14 = r17) → ∀ z20 : Int32, z20 = x3 + (4 : Int32) → (wp_L_law_L18 xs L Q n) z20 u15 u18) ∧ ((¬ r14 = r17) → False)))))) ∧ (z11 = (1 : Int32) → vp_in (x3 + (1 : Int32)) L ∧ (wp_X8_shut w0 (xs (x3 + (1 : Int32)).toNatClampNeg) (fun r23 u24 => vp_in (x3 + (1 : Int32)) L ∧ (wp_X9_shut w1 (xs (x3 + (1 : Int32)).toNatClampNeg) (fun r26 u27 => ((r23 = r26) → ∀ z29 : Int32, z29 = x3 + (4 : Int32) → (wp_L_law_L18 xs L Q n) z29 u24 u27) ∧ ((¬ r23 = r26) → False)))))) ∧ (z11 = (2 : Int32) → vp_in (x3 + (1 : Int32)) L ∧ (vp_in (x3 + (2 : Int32)) L ∧ ((((xs (x3 + (2 : Int32)).toNatClampNeg) = 0) → wp_L_law_B221 xs L x3 (xs (x3 + (1 : Int32)).toNatClampNeg) (0 : Int32) w0 w1 Q (wp_L_law_L18 xs L Q n)) ∧ ((¬ (xs (x3 + (2 : Int32)).toNatClampNeg) = 0) → wp_L_law_B221 xs L x3 (xs (x3 + (1 : Int32)).toNatClampNeg) (1 : Int32) w0 w1 Q (wp_L_law_L18 xs L Q n))))) ∧ (z11 = (3 : Int32) → vp_in (x3 + (1 : Int32)) L ∧ (vp_in (x3 + (2 : Int32)) L ∧ (vp_in (x3 + (3 : Int32)) L ∧ (wp_X8_join w0 (xs (x3 + (1 : Int32)).toNatClampNeg) (xs (x3 + (2 : Int32)).toNatClampNeg) (xs (x3 + (3 : Int32)).toNatClampNeg) (fun r49 u50 => vp_in (x3 + (1 : Int32)) L ∧ (vp_in (x3 + (2 : Int32)) L ∧ (vp_in (x3 + (3 : Int32)) L ∧ (wp_X9_join w1 (xs (x3 + (1 : Int32)).toNatClampNeg) (xs (x3 + (2 : Int32)).toNatClampNeg) (xs (x3 + (3 : Int32)).toNatClampNeg) (fun r54 u55 => ((r49 = r54) → ∀ z57 : Int32, z57 = x3 + (4 : Int32) → (wp_L_law_L18 xs L Q n) z57 u50 u55) ∧ ((¬ r49 = r54) → False)))))))))) ∧ (z11 = (4 : Int32) → vp_in (x3 + (1 : Int32)) L ∧ (vp_in (x3 + (2 : Int32)) L ∧ (wp_X8_keys w0 (xs (x3 + (1 : Int32)).toNatClampNeg) (xs (x3 + (2 : Int32)).toNatClampNeg) (fun r61 u62 => vp_in (x3 + (1 : Int32)) L ∧ (vp_in (x3 + (2 : Int32)) L ∧ (wp_X9_keys w1 (xs (x3 + (1 : Int32)).toNatClampNeg) (xs (x3 + (2 : Int32)).toNatClampNeg) (fun r65 u66 => ((r61 = r65) → ∀ z68 : Int32, z68 = x3 + (4 : Int32) → (wp_L_law_L18 xs L Q n) z68 u62 u66) ∧ ((¬ r61 = r65) → False)))))))) ∧ (z11 = (5 : Int32) → vp_in (x3 + (1 : Int32)) L ∧ (wp_X8_draft w0 (xs (x3 + (1 : Int32)).toNatClampNeg) (fun r71 u72 => vp_in (x3 + (1 : Int32)) L ∧ (wp_X9_draft w1 (xs (x3 + (1 : Int32)).toNatClampNeg) (fun r74 u75 => ((r71 = r74) → ∀ z77 : Int32, z77 = x3 + (4 : Int32) → (wp_L_law_L18 xs L Q n) z77 u72 u75) ∧ ((¬ r71 = r74) → False)))))) ∧ (z11 = (6 : Int32) → vp_in (x3 + (1 : Int32)) L ∧ (vp_in (x3 + (2 : Int32)) L ∧ (wp_X8_guestOpens w0 (xs (x3 + (1 : Int32)).toNatClampNeg) (xs (x3 + (2 : Int32)).toNatClampNeg) (fun r81 u82 => vp_in (x3 + (1 : Int32)) L ∧ (vp_in (x3 + (2 : Int32)) L ∧ (wp_X9_guestOpens w1 (xs (x3 + (1 : Int32)).toNatClampNeg) (xs (x3 + (2 : Int32)).toNatClampNeg) (fun r85 u86 => ((r81 = r85) → ∀ z88 : Int32, z88 = x3 + (4 : Int32) → (wp_L_law_L18 xs L Q n) z88 u82 u86) ∧ ((¬ r81 = r85) → False)))))))) ∧ (z11 = (7 : Int32) → vp_in (x3 + (1 : Int32)) L ∧ (vp_in (x3 + (2 : Int32)) L ∧ (wp_X8_guestShuts w0 (xs (x3 + (1 : Int32)).toNatClampNeg) (xs (x3 + (2 : Int32)).toNatClampNeg) (fun r92 u93 => vp_in (x3 + (1 : Int32)) L ∧ (vp_in (x3 + (2 : Int32)) L ∧ (wp_X9_guestShuts w1 (xs (x3 + (1 : Int32)).toNatClampNeg) (xs (x3 + (2 : Int32)).toNatClampNeg) (fun r96 u97 => ((r92 = r96) → ∀ z99 : Int32, z99 = x3 + (4 : Int32) → (wp_L_law_L18 xs L Q n) z99 u93 u97) ∧ ((¬ r92 = r96) → False)))))))) ∧ (z11 = (8 : Int32) → vp_in (x3 + (1 : Int32)) L ∧ (vp_in (x3 + (2 : Int32)) L ∧ (wp_X8_walk w0 (xs (x3 + (1 : Int32)).toNatClampNeg) (xs (x3 + (2 : Int32)).toNatClampNeg) (fun r103 u104 => vp_in (x3 + (1 : Int32)) L ∧ (vp_in (x3 + (2 : Int32)) L ∧ (wp_X9_walk w1 (xs (x3 + (1 : Int32)).toNatClampNeg) (xs (x3 + (2 : Int32)).toNatClampNeg) (fun r107 u108 => ((r103 = r107) → ∀ z110 : Int32, z110 = x3 + (4 : Int32) → (wp_L_law_L18 xs L Q n) z110 u104 u108) ∧ ((¬ r103 = r107) → False)))))))) ∧ (z11 = (9 : Int32) → vp_in (x3 + (1 : Int32)) L ∧ (wp_X8_append w0 (xs (x3 + (1 : Int32)).toNatClampNeg) (fun r113 u114 => vp_in (x3 + (1 : Int32)) L ∧ (wp_X9_append w1 (xs (x3 + (1 : Int32)).toNatClampNeg) (fun r116 u117 => ((r113 = r116) → ∀ z119 : Int32, z119 = x3 + (4 : Int32) → (wp_L_law_L18 xs L Q n) z119 u114 u117) ∧ ((¬ r113 = r116) → False)))))) ∧ (z11 = (10 : Int32) → wp_X8_clear w0 (fun r121 u122 => wp_X9_clear w1 (fun r123 u124 => ((r121 = r123) → ∀ z126 : Int32, z126 = x3 + (4 : Int32) → (wp_L_law_L18 xs L Q n) z126 u122 u124) ∧ ((¬ r121 = r123) → False)))) ∧ (z11 = (11 : Int32) → wp_X8_fault w0 (fun r128 => wp_X9_fault w1 (fun r130 u131 => ((r128 = r130) → ∀ z133 : Int32, z133 = x3 + (4 : Int32) → (wp_L_law_L18 xs L Q n) z133 w0 u131) ∧ ((¬ r128 = r130) → False)))) ∧ (z11 = (12 : Int32) → wp_X8_run w0 (fun r135 u136 => wp_X9_run w1 (fun r137 u138 => ((r135 = r137) → ∀ z140 : Int32, z140 = x3 + (4 : Int32) → (wp_L_law_L18 xs L Q n) z140 u136 u138) ∧ ((¬ r135 = r137) → False)))) ∧ (z11 = (13 : Int32) → vp_in (x3 + (1 : Int32)) L ∧ (wp_X8_why w0 (xs (x3 + (1 : Int32)).toNatClampNeg) (fun r143 => vp_in (x3 + (1 : Int32)) L ∧ (wp_X9_why w1 (xs (x3 + (1 : Int32)).toNatClampNeg) (fun r146 => ((r143 = r146) → ∀ z149 : Int32, z149 = x3 + (4 : Int32) → (wp_L_law_L18 xs L Q n) z149 w0 w1) ∧ ((¬ r143 = r146) → False)))))) ∧ (z11 = (14 : Int32) → vp_in (x3 + (1 : Int32)) L ∧ (vp_in (x3 + (2 : Int32)) L ∧ (wp_X8_door w0 (xs (x3 + (1 : Int32)).toNatClampNeg) (xs (x3 + (2 : Int32)).toNatClampNeg) (fun r153 => vp_in (x3 + (1 : Int32)) L ∧ (vp_in (x3 + (2 : Int32)) L ∧ (wp_X9_door w1 (xs (x3 + (1 : Int32)).toNatClampNeg) (xs (x3 + (2 : Int32)).toNatClampNeg) (fun r157 => ((r153 = r157) → ∀ z160 : Int32, z160 = x3 + (4 : Int32) → (wp_L_law_L18 xs L Q n) z160 w0 w1) ∧ ((¬ r153 = r157) → False)))))))) ∧ (z11 = (15 : Int32) → vp_in (x3 + (1 : Int32)) L ∧ (vp_in (x3 + (2 : Int32)) L ∧ (wp_X8_hall w0 (xs (x3 + (1 : Int32)).toNatClampNeg) (xs (x3 + (2 : Int32)).toNatClampNeg) (fun r164 => vp_in (x3 + (1 : Int32)) L ∧ (vp_in (x3 + (2 : Int32)) L ∧ (wp_X9_hall w1 (xs (x3 + (1 : Int32)).toNatClampNeg) (xs (x3 + (2 : Int32)).toNatClampNeg) (fun r168 => ((r164 = r168) → ∀ z171 : Int32, z171 = x3 + (4 : Int32) → (wp_L_law_L18 xs L Q n) z171 w0 w1) ∧ ((¬ r164 = r168) → False)))))))) ∧ (z11 = (16 : Int32) → vp_in (x3 + (1 : Int32)) L ∧ (vp_in (x3 + (2 : Int32)) L ∧ (wp_X8_guest w0 (xs (x3 + (1 : Int32)).toNatClampNeg) (xs (x3 + (2 : Int32)).toNatClampNeg) (fun r175 => vp_in (x3 + (1 : Int32)) L ∧ (vp_in (x3 + (2 : Int32)) L ∧ (wp_X9_guest w1 (xs (x3 + (1 : Int32)).toNatClampNeg) (xs (x3 + (2 : Int32)).toNatClampNeg) (fun r179 => ((r175 = r179) → ∀ z182 : Int32, z182 = x3 + (4 : Int32) → (wp_L_law_L18 xs L Q n) z182 w0 w1) ∧ ((¬ r175 = r179) → False)))))))) ∧ (z11 = (17 : Int32) → vp_in (x3 + (1 : Int32)) L ∧ (wp_X8_whyNot w0 (xs (x3 + (1 : Int32)).toNatClampNeg) (fun r185 => vp_in (x3 + (1 : Int32)) L ∧ (wp_X9_whyNot w1 (xs (x3 + (1 : Int32)).toNatClampNeg) (fun r188 => ((r185 = r188) → ∀ z191 : Int32, z191 = x3 + (4 : Int32) → (wp_L_law_L18 xs L Q n) z191 w0 w1) ∧ ((¬ r185 = r188) → False)))))) ∧ (z11 = (18 : Int32) → vp_in (x3 + (1 : Int32)) L ∧ (wp_X8_together w0 (xs (x3 + (1 : Int32)).toNatClampNeg) (fun r194 => vp_in (x3 + (1 : Int32)) L ∧ (wp_X9_together w1 (xs (x3 + (1 : Int32)).toNatClampNeg) (fun r197 => ((r194 = r197) → ∀ z200 : Int32, z200 = x3 + (4 : Int32) → (wp_L_law_L18 xs L Q n) z200 w0 w1) ∧ ((¬ r194 = r197) → False)))))) ∧ (z11 = (19 : Int32) → vp_in (x3 + (1 : Int32)) L ∧ (wp_X8_can w0 (xs (x3 + (1 : Int32)).toNatClampNeg) (fun r203 => vp_in (x3 + (1 : Int32)) L ∧ (wp_X9_can w1 (xs (x3 + (1 : Int32)).toNatClampNeg) (fun r206 => ((r203 = r206) → ∀ z209 : Int32, z209 = x3 + (4 : Int32) → (wp_L_law_L18 xs L Q n) z209 w0 w1) ∧ ((¬ r203 = r206) → False)))))) ∧ (z11 = (20 : Int32) → vp_in (x3 + (1 : Int32)) L ∧ (vp_in (x3 + (2 : Int32)) L ∧ (vp_in (x3 + (3 : Int32)) L ∧ (wp_X8_deeds w0 (xs (x3 + (1 : Int32)).toNatClampNeg) (xs (x3 + (2 : Int32)).toNatClampNeg) (xs (x3 + (3 : Int32)).toNatClampNeg) (fun r214 u215 => vp_in (x3 + (1 : Int32)) L ∧ (vp_in (x3 + (2 : Int32)) L ∧ (vp_in (x3 + (3 : Int32)) L ∧ (wp_X9_deeds w1 (xs (x3 + (1 : Int32)).toNatClampNeg) (xs (x3 + (2 : Int32)).toNatClampNeg) (xs (x3 + (3 : Int32)).toNatClampNeg) (fun r219 u220 => ((r214 = r219) → ∀ z222 : Int32, z222 = x3 + (4 : Int32) → (wp_L_law_L18 xs L Q n) z222 u215 u220) ∧ ((¬ r214 = r219) → False)))))))))) ∧ (z11 = (21 : Int32) → vp_in (x3 + (1 : Int32)) L ∧ (wp_X8_count w0 (xs (x3 + (1 : Int32)).toNatClampNeg) (fun r225 => vp_in (x3 + (1 : Int32)) L ∧ (wp_X9_count w1 (xs (x3 + (1 : Int32)).toNatClampNeg) (fun r228 => ((r225 = r228) → ∀ z231 : Int32, z231 = x3 + (4 : Int32) → (wp_L_law_L18 xs L Q n) z231 w0 w1) ∧ ((¬ r225 = r228) → False)))))) ∧ (z11 = (22 : Int32) → wp_X8_tightness w0 (fun r233 => ∀ z235 : UInt64, z235 = r233 → wp_X9_tightness w1 (fun r236 => ∀ z238 : UInt64, z238 = r236 → (((Op.cmpValue (FP.dcmp z235 z238) CmpOp.l) = 0) → ∀ z240 : Int32, z240 = x3 + (4 : Int32) → (wp_L_law_L18 xs L Q n) z240 w0 w1) ∧ ((¬ (Op.cmpValue (FP.dcmp z235 z238) CmpOp.l) = 0) → (((Op.cmpValue (FP.dcmp z235 z235) CmpOp.l) = 0) → False) ∧ ((¬ (Op.cmpValue (FP.dcmp z235 z235) CmpOp.l) = 0) → ((¬ (Op.cmpValue (FP.dcmp z238 z238) CmpOp.l) = 0) → ∀ z243 : Int32, z243 = x3 + (4 : Int32) → (wp_L_law_L18 xs L Q n) z243 w0 w1) ∧ (((Op.cmpValue (FP.dcmp z238 z238) CmpOp.l) = 0) → False)))))) ∧ (z11 = (23 : Int32) → vp_in (x3 + (1 : Int32)) L ∧ (vp_in (x3 + (2 : Int32)) L ∧ (wp_X8_ifOpened w0 (xs (x3 + (1 : Int32)).toNatClampNeg) (xs (x3 + (2 : Int32)).toNatClampNeg) (fun r247 => vp_in (x3 + (1 : Int32)) L ∧ (vp_in (x3 + (2 : Int32)) L ∧ (wp_X9_ifOpened w1 (xs (x3 + (1 : Int32)).toNatClampNeg) (xs (x3 + (2 : Int32)).toNatClampNeg) (fun r251 u252 => ((r247 = r251) → ∀ z254 : Int32, z254 = x3 + (4 : Int32) → (wp_L_law_L18 xs L Q n) z254 w0 u252) ∧ ((¬ r247 = r251) → False)))))))) ∧ (z11 = (24 : Int32) → wp_X8_undo w0 (fun r256 u257 => wp_X9_undo w1 (fun r258 u259 => ((r256 = r258) → ∀ z261 : Int32, z261 = x3 + (4 : Int32) → (wp_L_law_L18 xs L Q n) z261 u257 u259) ∧ ((¬ r256 = r258) → False)))) ∧ (z11 = (25 : Int32) → wp_X8_save w0 (fun r263 u264 => wp_X9_save w1 (fun r265 u266 => ((r263 = r265) → ∀ z268 : Int32, z268 = x3 + (4 : Int32) → (wp_L_law_L18 xs L Q n) z268 u264 u266) ∧ ((¬ r263 = r265) → False)))) ∧ (z11 = (26 : Int32) → wp_X8_restore w0 (fun r270 u271 => wp_X9_restore w1 (fun r272 u273 => ((r270 = r272) → ∀ z275 : Int32, z275 = x3 + (4 : Int32) → (wp_L_law_L18 xs L Q n) z275 u271 u273) ∧ ((¬ r270 = r272) → False)))) ∧ (¬ z11 = (0 : Int32) → ¬ z11 = (1 : Int32) → ¬ z11 = (2 : Int32) → ¬ z11 = (3 : Int32) → ¬ z11 = (4 : Int32) → ¬ z11 = (5 : Int32) → ¬ z11 = (6 : Int32) → ¬ z11 = (7 : Int32) → ¬ z11 = (8 : Int32) → ¬ z11 = (9 : Int32) → ¬ z11 = (10 : Int32) → ¬ z11 = (11 : Int32) → ¬ z11 = (12 : Int32) → ¬ z11 = (13 : Int32) → ¬ z11 = (14 : Int32) → ¬ z11 = (15 : Int32) → ¬ z11 = (16 : Int32) → ¬ z11 = (17 : Int32) → ¬ z11 = (18 : Int32) → ¬ z11 = (19 : Int32) → ¬ z11 = (20 : Int32) → ¬ z11 = (21 : Int32) → ¬ z11 = (22 : Int32) → ¬ z11 = (23 : Int32) → ¬ z11 = (24 : Int32) → ¬ z11 = (25 : Int32) → ¬ z11 = (26 : Int32) → ∀ z276 : Int32, z276 = x3 + (4 : Int32) → (wp_L_law_L18 xs L Q n) z276 w0 w1))))
def wp_L_law (xs : Nat → Int32) (L : Nat) (Q : Prop) : Prop := wp_X8_init (fun v4 => wp_X9_init (fun v8 => ∃ k : Nat, wp_L_law_L18 xs L Q k (0 : Int32) v4 v8))
set_option maxHeartbeats 8000000 in
set_option maxRecDepth 100000 in
theorem law_V {p : Program} {e : Env} {s : State} {m : MethodId} {below : List Frame} {meth : Method} {c : Code} (l : Launch) {b L : Nat} {xs : Nat → Int32} (G : GG) (S : Fx p m c code 8 s #[Value.ref b] RL meth ret G (fun q : Nat => s.heap.size ≤ q)) (hX : va_X b L xs s s.heap) (hbl : b < s.heap.size) (Q : Prop) (hw : wp_L_law xs L Q) : V p l e room_1 s m #[Value.ref b] below meth c G (fun q : Nat => s.heap.size ≤ q) 8 0 0 (lw_Z below #[Value.ref b] s) [] 0 [(0, .ref b)] [] := by
  have B248 : ∀ (a0 : CDA) (a1 : ModA) (x3 : Int32) (t0 : Int32) (t2 : Int32) (t3 : Int32) (w0 : CDV) (w1 : ModV) (K18 : Int32 → CDV → ModV → Prop) (hK18 : ∀ (y0 : Int32) (y1 : CDV) (y2 : ModV), K18 y0 y1 y2 → V p l e room_1 s m #[Value.ref b] below meth c G (fun q : Nat => s.heap.size ≤ q) 8 600000 7302250 (lw_Z below #[Value.ref b] s) (wCD G a0 y1.1 y1.2.1 y1.2.2.1 y1.2.2.2.1 y1.2.2.2.2.1 y1.2.2.2.2.2.1 y1.2.2.2.2.2.2 ++ wMod G a1 y2.1 y2.2.1 y2.2.2.1 y2.2.2.2.1 y2.2.2.2.2.1 y2.2.2.2.2.2.1 y2.2.2.2.2.2.2.1 y2.2.2.2.2.2.2.2.1 y2.2.2.2.2.2.2.2.2.1 y2.2.2.2.2.2.2.2.2.2.1 y2.2.2.2.2.2.2.2.2.2.2.1 y2.2.2.2.2.2.2.2.2.2.2.2.1 y2.2.2.2.2.2.2.2.2.2.2.2.2.1 y2.2.2.2.2.2.2.2.2.2.2.2.2.2.1 y2.2.2.2.2.2.2.2.2.2.2.2.2.2.2.1 y2.2.2.2.2.2.2.2.2.2.2.2.2.2.2.2.1 y2.2.2.2.2.2.2.2.2.2.2.2.2.2.2.2.2) 18 [(0, .ref b), (1, .ref a0.1), (2, .ref a1.1), (3, .int y0)] []), wp_L_law_B248 xs L x3 t0 t2 t3 w0 w1 Q K18 → V p l e room_1 s m #[Value.ref b] below meth c G (fun q : Nat => s.heap.size ≤ q) 8 600000 7302250 (lw_Z below #[Value.ref b] s) (wCD G a0 w0.1 w0.2.1 w0.2.2.1 w0.2.2.2.1 w0.2.2.2.2.1 w0.2.2.2.2.2.1 w0.2.2.2.2.2.2 ++ wMod G a1 w1.1 w1.2.1 w1.2.2.1 w1.2.2.2.1 w1.2.2.2.2.1 w1.2.2.2.2.2.1 w1.2.2.2.2.2.2.1 w1.2.2.2.2.2.2.2.1 w1.2.2.2.2.2.2.2.2.1 w1.2.2.2.2.2.2.2.2.2.1 w1.2.2.2.2.2.2.2.2.2.2.1 w1.2.2.2.2.2.2.2.2.2.2.2.1 w1.2.2.2.2.2.2.2.2.2.2.2.2.1 w1.2.2.2.2.2.2.2.2.2.2.2.2.2.1 w1.2.2.2.2.2.2.2.2.2.2.2.2.2.2.1 w1.2.2.2.2.2.2.2.2.2.2.2.2.2.2.2.1 w1.2.2.2.2.2.2.2.2.2.2.2.2.2.2.2.2) 248 [(0, .ref b), (1, .ref a0.1), (2, .ref a1.1), (3, .int x3)] [.int t3, .int t2, .ref a1.1, .int t0] := by
    intro a0 a1 x3 t0 t2 t3 w0 w1 K18 hK18 hw
    refine v_aload_n (pc2 := 249) S 0 dL_law_248 rfl rfl rfl ?_
    refine v_iload_n (pc2 := 250) S 3 dL_law_249 rfl rfl rfl ?_
    refine v_iconst (v := 3) (pc2 := 251) S dL_law_250 (by decide) rfl ?_
    refine v_iadd (pc2 := 252) S dL_law_251 rfl ?_
    obtain ⟨h40, hw⟩ := hw
    refine v_sld (pc2 := 253) S hX hbl h40 dL_law_252 rfl ?_
    refine v_callV (pc2 := 256) (As := [.int t2, .int t3, .int (xs (x3 + (3 : Int32)).toNatClampNeg)]) (rest := [.int t0]) S (c_X9_cord l G a1 w1 t2 t3 (xs (x3 + (3 : Int32)).toNatClampNeg) _ hw) mf_X9_cord u_959 u_960 u_961 0 9 rfl rfl rfl rfl ⟨rfl, rfl⟩ ⟨Nat.le_of_ble_eq_true rfl, Nat.le_of_ble_eq_true rfl⟩ ⟨Nat.le_of_ble_eq_true rfl, Nat.le_of_ble_eq_true rfl⟩ (Nat.le_of_ble_eq_true rfl) dL_law_253 (frM (wCD G a0 w0.1 w0.2.1 w0.2.2.1 w0.2.2.2.1 w0.2.2.2.2.1 w0.2.2.2.2.2.1 w0.2.2.2.2.2.2) (wMod G a1 w1.1 w1.2.1 w1.2.2.1 w1.2.2.2.1 w1.2.2.2.2.1 w1.2.2.2.2.2.1 w1.2.2.2.2.2.2.1 w1.2.2.2.2.2.2.2.1 w1.2.2.2.2.2.2.2.2.1 w1.2.2.2.2.2.2.2.2.2.1 w1.2.2.2.2.2.2.2.2.2.2.1 w1.2.2.2.2.2.2.2.2.2.2.2.1 w1.2.2.2.2.2.2.2.2.2.2.2.2.1 w1.2.2.2.2.2.2.2.2.2.2.2.2.2.1 w1.2.2.2.2.2.2.2.2.2.2.2.2.2.2.1 w1.2.2.2.2.2.2.2.2.2.2.2.2.2.2.2.1 w1.2.2.2.2.2.2.2.2.2.2.2.2.2.2.2.2) ([])) rfl (pi (fun r41 u42 hw => ?_))
    refine v_to (wCD G a0 w0.1 w0.2.1 w0.2.2.1 w0.2.2.2.1 w0.2.2.2.2.1 w0.2.2.2.2.2.1 w0.2.2.2.2.2.2 ++ wMod G a1 u42.1 u42.2.1 u42.2.2.1 u42.2.2.2.1 u42.2.2.2.2.1 u42.2.2.2.2.2.1 u42.2.2.2.2.2.2.1 u42.2.2.2.2.2.2.2.1 u42.2.2.2.2.2.2.2.2.1 u42.2.2.2.2.2.2.2.2.2.1 u42.2.2.2.2.2.2.2.2.2.2.1 u42.2.2.2.2.2.2.2.2.2.2.2.1 u42.2.2.2.2.2.2.2.2.2.2.2.2.1 u42.2.2.2.2.2.2.2.2.2.2.2.2.2.1 u42.2.2.2.2.2.2.2.2.2.2.2.2.2.2.1 u42.2.2.2.2.2.2.2.2.2.2.2.2.2.2.2.1 u42.2.2.2.2.2.2.2.2.2.2.2.2.2.2.2.2) 256 [(0, .ref b), (1, .ref a0.1), (2, .ref a1.1), (3, .int x3)] _ [.int r41, .int t0] rfl rfl rfl rfl ?_
    refine v_icmp_eq (pc2 := 259) (tgt := 891) S dL_law_256 (by decide) rfl (fun c43 => ?_) (fun c43 => ?_)
    · have hw := hw.1 c43
      obtain ⟨z44, ez44⟩ : ∃ y : Int32, y = x3 + (4 : Int32) := ⟨_, rfl⟩
      have hw := hw z44 ez44
      refine v_iinc (v := z44) (lv2 := [(0, .ref b), (1, .ref a0.1), (2, .ref a1.1), (3, .int z44)]) (pc2 := 894) S 3 dL_law_891 rfl (by rw [ez44]; rfl) (by decide) [1, 2, 3, 0] rfl rfl ?_
      refine v_goto (tgt := 18) S dL_law_894 (by decide) ?_
      exact hK18 z44 w0 u42 hw
    · have hw := hw.2 c43
      refine v_iconst (v := 0) (pc2 := 260) S dL_law_259 (by decide) rfl ?_
      exact hw.elim
  have B221 : ∀ (a0 : CDA) (a1 : ModA) (x3 : Int32) (t1 : Int32) (t2 : Int32) (w0 : CDV) (w1 : ModV) (K18 : Int32 → CDV → ModV → Prop) (hK18 : ∀ (y0 : Int32) (y1 : CDV) (y2 : ModV), K18 y0 y1 y2 → V p l e room_1 s m #[Value.ref b] below meth c G (fun q : Nat => s.heap.size ≤ q) 8 600000 7302250 (lw_Z below #[Value.ref b] s) (wCD G a0 y1.1 y1.2.1 y1.2.2.1 y1.2.2.2.1 y1.2.2.2.2.1 y1.2.2.2.2.2.1 y1.2.2.2.2.2.2 ++ wMod G a1 y2.1 y2.2.1 y2.2.2.1 y2.2.2.2.1 y2.2.2.2.2.1 y2.2.2.2.2.2.1 y2.2.2.2.2.2.2.1 y2.2.2.2.2.2.2.2.1 y2.2.2.2.2.2.2.2.2.1 y2.2.2.2.2.2.2.2.2.2.1 y2.2.2.2.2.2.2.2.2.2.2.1 y2.2.2.2.2.2.2.2.2.2.2.2.1 y2.2.2.2.2.2.2.2.2.2.2.2.2.1 y2.2.2.2.2.2.2.2.2.2.2.2.2.2.1 y2.2.2.2.2.2.2.2.2.2.2.2.2.2.2.1 y2.2.2.2.2.2.2.2.2.2.2.2.2.2.2.2.1 y2.2.2.2.2.2.2.2.2.2.2.2.2.2.2.2.2) 18 [(0, .ref b), (1, .ref a0.1), (2, .ref a1.1), (3, .int y0)] []), wp_L_law_B221 xs L x3 t1 t2 w0 w1 Q K18 → V p l e room_1 s m #[Value.ref b] below meth c G (fun q : Nat => s.heap.size ≤ q) 8 600000 7302250 (lw_Z below #[Value.ref b] s) (wCD G a0 w0.1 w0.2.1 w0.2.2.1 w0.2.2.2.1 w0.2.2.2.2.1 w0.2.2.2.2.2.1 w0.2.2.2.2.2.2 ++ wMod G a1 w1.1 w1.2.1 w1.2.2.1 w1.2.2.2.1 w1.2.2.2.2.1 w1.2.2.2.2.2.1 w1.2.2.2.2.2.2.1 w1.2.2.2.2.2.2.2.1 w1.2.2.2.2.2.2.2.2.1 w1.2.2.2.2.2.2.2.2.2.1 w1.2.2.2.2.2.2.2.2.2.2.1 w1.2.2.2.2.2.2.2.2.2.2.2.1 w1.2.2.2.2.2.2.2.2.2.2.2.2.1 w1.2.2.2.2.2.2.2.2.2.2.2.2.2.1 w1.2.2.2.2.2.2.2.2.2.2.2.2.2.2.1 w1.2.2.2.2.2.2.2.2.2.2.2.2.2.2.2.1 w1.2.2.2.2.2.2.2.2.2.2.2.2.2.2.2.2) 221 [(0, .ref b), (1, .ref a0.1), (2, .ref a1.1), (3, .int x3)] [.int t2, .int t1, .ref a0.1] := by
    intro a0 a1 x3 t1 t2 w0 w1 K18 hK18 hw
    refine v_aload_n (pc2 := 222) S 0 dL_law_221 rfl rfl rfl ?_
    refine v_iload_n (pc2 := 223) S 3 dL_law_222 rfl rfl rfl ?_
    refine v_iconst (v := 3) (pc2 := 224) S dL_law_223 (by decide) rfl ?_
    refine v_iadd (pc2 := 225) S dL_law_224 rfl ?_
    obtain ⟨h34, hw⟩ := hw
    refine v_sld (pc2 := 226) S hX hbl h34 dL_law_225 rfl ?_
    refine v_callV (pc2 := 229) (As := [.int t1, .int t2, .int (xs (x3 + (3 : Int32)).toNatClampNeg)]) (rest := []) S (c_X8_cord l G a0 w0 t1 t2 (xs (x3 + (3 : Int32)).toNatClampNeg) _ hw) mf_X8_cord u_417 u_418 u_419 0 8 rfl rfl rfl rfl ⟨rfl, rfl⟩ ⟨Nat.le_of_ble_eq_true rfl, Nat.le_of_ble_eq_true rfl⟩ ⟨Nat.le_of_ble_eq_true rfl, Nat.le_of_ble_eq_true rfl⟩ (Nat.le_of_ble_eq_true rfl) dL_law_226 (frM ([]) (wCD G a0 w0.1 w0.2.1 w0.2.2.1 w0.2.2.2.1 w0.2.2.2.2.1 w0.2.2.2.2.2.1 w0.2.2.2.2.2.2) (wMod G a1 w1.1 w1.2.1 w1.2.2.1 w1.2.2.2.1 w1.2.2.2.2.1 w1.2.2.2.2.2.1 w1.2.2.2.2.2.2.1 w1.2.2.2.2.2.2.2.1 w1.2.2.2.2.2.2.2.2.1 w1.2.2.2.2.2.2.2.2.2.1 w1.2.2.2.2.2.2.2.2.2.2.1 w1.2.2.2.2.2.2.2.2.2.2.2.1 w1.2.2.2.2.2.2.2.2.2.2.2.2.1 w1.2.2.2.2.2.2.2.2.2.2.2.2.2.1 w1.2.2.2.2.2.2.2.2.2.2.2.2.2.2.1 w1.2.2.2.2.2.2.2.2.2.2.2.2.2.2.2.1 w1.2.2.2.2.2.2.2.2.2.2.2.2.2.2.2.2)) rfl (pi (fun r35 u36 hw => ?_))
    refine v_to (wCD G a0 u36.1 u36.2.1 u36.2.2.1 u36.2.2.2.1 u36.2.2.2.2.1 u36.2.2.2.2.2.1 u36.2.2.2.2.2.2 ++ wMod G a1 w1.1 w1.2.1 w1.2.2.1 w1.2.2.2.1 w1.2.2.2.2.1 w1.2.2.2.2.2.1 w1.2.2.2.2.2.2.1 w1.2.2.2.2.2.2.2.1 w1.2.2.2.2.2.2.2.2.1 w1.2.2.2.2.2.2.2.2.2.1 w1.2.2.2.2.2.2.2.2.2.2.1 w1.2.2.2.2.2.2.2.2.2.2.2.1 w1.2.2.2.2.2.2.2.2.2.2.2.2.1 w1.2.2.2.2.2.2.2.2.2.2.2.2.2.1 w1.2.2.2.2.2.2.2.2.2.2.2.2.2.2.1 w1.2.2.2.2.2.2.2.2.2.2.2.2.2.2.2.1 w1.2.2.2.2.2.2.2.2.2.2.2.2.2.2.2.2) 229 [(0, .ref b), (1, .ref a0.1), (2, .ref a1.1), (3, .int x3)] _ [.int r35] rfl rfl rfl rfl ?_
    refine v_aload_n (pc2 := 230) S 2 dL_law_229 rfl rfl rfl ?_
    refine v_aload_n (pc2 := 231) S 0 dL_law_230 rfl rfl rfl ?_
    refine v_iload_n (pc2 := 232) S 3 dL_law_231 rfl rfl rfl ?_
    refine v_iconst (v := 1) (pc2 := 233) S dL_law_232 (by decide) rfl ?_
    refine v_iadd (pc2 := 234) S dL_law_233 rfl ?_
    obtain ⟨h37, hw⟩ := hw
    refine v_sld (pc2 := 235) S hX hbl h37 dL_law_234 rfl ?_
    refine v_aload_n (pc2 := 236) S 0 dL_law_235 rfl rfl rfl ?_
    refine v_iload_n (pc2 := 237) S 3 dL_law_236 rfl rfl rfl ?_
    refine v_iconst (v := 2) (pc2 := 238) S dL_law_237 (by decide) rfl ?_
    refine v_iadd (pc2 := 239) S dL_law_238 rfl ?_
    obtain ⟨h38, hw⟩ := hw
    refine v_sld (pc2 := 240) S hX hbl h38 dL_law_239 rfl ?_
    refine v_if_eq (pc2 := 243) (tgt := 247) S dL_law_240 (by decide) rfl (fun c39 => ?_) (fun c39 => ?_)
    · have hw := hw.1 c39
      refine v_iconst (v := 0) (pc2 := 248) S dL_law_247 (by decide) rfl ?_
      exact B248 a0 a1 x3 r35 (xs (x3 + (1 : Int32)).toNatClampNeg) (0 : Int32) u36 w1 K18 hK18 hw
    · have hw := hw.2 c39
      refine v_iconst (v := 1) (pc2 := 244) S dL_law_243 (by decide) rfl ?_
      refine v_goto (tgt := 248) S dL_law_244 (by decide) ?_
      exact B248 a0 a1 x3 r35 (xs (x3 + (1 : Int32)).toNatClampNeg) (1 : Int32) u36 w1 K18 hK18 hw
  have L18 : ∀ (a0 : CDA) (a1 : ModA) (kk : Nat) (x3 : Int32) (w0 : CDV) (w1 : ModV), wp_L_law_L18 xs L Q kk x3 w0 w1 → V p l e room_1 s m #[Value.ref b] below meth c G (fun q : Nat => s.heap.size ≤ q) 8 600000 7302250 (lw_Z below #[Value.ref b] s) (wCD G a0 w0.1 w0.2.1 w0.2.2.1 w0.2.2.2.1 w0.2.2.2.2.1 w0.2.2.2.2.2.1 w0.2.2.2.2.2.2 ++ wMod G a1 w1.1 w1.2.1 w1.2.2.1 w1.2.2.2.1 w1.2.2.2.2.1 w1.2.2.2.2.2.1 w1.2.2.2.2.2.2.1 w1.2.2.2.2.2.2.2.1 w1.2.2.2.2.2.2.2.2.1 w1.2.2.2.2.2.2.2.2.2.1 w1.2.2.2.2.2.2.2.2.2.2.1 w1.2.2.2.2.2.2.2.2.2.2.2.1 w1.2.2.2.2.2.2.2.2.2.2.2.2.1 w1.2.2.2.2.2.2.2.2.2.2.2.2.2.1 w1.2.2.2.2.2.2.2.2.2.2.2.2.2.2.1 w1.2.2.2.2.2.2.2.2.2.2.2.2.2.2.2.1 w1.2.2.2.2.2.2.2.2.2.2.2.2.2.2.2.2) 18 [(0, .ref b), (1, .ref a0.1), (2, .ref a1.1), (3, .int x3)] [] := by
    intro a0 a1 kk
    induction kk with
    | zero => intro x3 w0 w1 hw; exact hw.elim
    | succ n ih =>
      intro x3 w0 w1 hw
      refine v_iload_n (pc2 := 19) S 3 dL_law_18 rfl rfl rfl ?_
      refine v_aload_n (pc2 := 20) S 0 dL_law_19 rfl rfl rfl ?_
      refine v_slen (pc2 := 21) S hX hbl dL_law_20 rfl ?_
      refine v_iconst (v := 4) (pc2 := 22) S dL_law_21 (by decide) rfl ?_
      refine v_isub (pc2 := 23) S dL_law_22 rfl ?_
      refine v_icmp_gt (pc2 := 26) (tgt := 897) S dL_law_23 (by decide) rfl (fun c9 => ?_) (fun c9 => ?_)
      · have hw := hw.1 c9
        refine v_iconst (v := 1) (pc2 := 898) S dL_law_897 (by decide) rfl ?_
        exact v_law1 S dL_law_898
      · have hw := hw.2 c9
        refine v_aload_n (pc2 := 27) S 0 dL_law_26 rfl rfl rfl ?_
        refine v_iload_n (pc2 := 28) S 3 dL_law_27 rfl rfl rfl ?_
        obtain ⟨h10, hw⟩ := hw
        refine v_sld (pc2 := 29) S hX hbl h10 dL_law_28 rfl ?_
        refine v_bipush (v := 31) (pc2 := 31) S dL_law_29 (by decide) rfl ?_
        refine v_iand (pc2 := 32) S dL_law_31 rfl ?_
        refine v_nm (fun z11 ez11 => ?_)
        have hw := hw z11 ez11
        by_cases c12 : z11 = (0 : Int32)
        · have hw := hw.1 c12
          refine v_tableIn (off := 124) (tgt := 156) S dL_law_32 (by rw [c12]; decide) (by rw [c12]; decide) (by rw [c12]; rfl) (by decide) ?_
          refine v_aload_n (pc2 := 157) S 1 dL_law_156 rfl rfl rfl ?_
          refine v_aload_n (pc2 := 158) S 0 dL_law_157 rfl rfl rfl ?_
          refine v_iload_n (pc2 := 159) S 3 dL_law_158 rfl rfl rfl ?_
          refine v_iconst (v := 1) (pc2 := 160) S dL_law_159 (by decide) rfl ?_
          refine v_iadd (pc2 := 161) S dL_law_160 rfl ?_
          obtain ⟨h13, hw⟩ := hw
          refine v_sld (pc2 := 162) S hX hbl h13 dL_law_161 rfl ?_
          refine v_callV (pc2 := 165) (As := [.int (xs (x3 + (1 : Int32)).toNatClampNeg)]) (rest := []) S (c_X8_open l G a0 w0 (xs (x3 + (1 : Int32)).toNatClampNeg) _ hw) mf_X8_open u_296 u_297 u_298 0 8 rfl rfl rfl rfl ⟨rfl, rfl⟩ ⟨Nat.le_of_ble_eq_true rfl, Nat.le_of_ble_eq_true rfl⟩ ⟨Nat.le_of_ble_eq_true rfl, Nat.le_of_ble_eq_true rfl⟩ (Nat.le_of_ble_eq_true rfl) dL_law_162 (frM ([]) (wCD G a0 w0.1 w0.2.1 w0.2.2.1 w0.2.2.2.1 w0.2.2.2.2.1 w0.2.2.2.2.2.1 w0.2.2.2.2.2.2) (wMod G a1 w1.1 w1.2.1 w1.2.2.1 w1.2.2.2.1 w1.2.2.2.2.1 w1.2.2.2.2.2.1 w1.2.2.2.2.2.2.1 w1.2.2.2.2.2.2.2.1 w1.2.2.2.2.2.2.2.2.1 w1.2.2.2.2.2.2.2.2.2.1 w1.2.2.2.2.2.2.2.2.2.2.1 w1.2.2.2.2.2.2.2.2.2.2.2.1 w1.2.2.2.2.2.2.2.2.2.2.2.2.1 w1.2.2.2.2.2.2.2.2.2.2.2.2.2.1 w1.2.2.2.2.2.2.2.2.2.2.2.2.2.2.1 w1.2.2.2.2.2.2.2.2.2.2.2.2.2.2.2.1 w1.2.2.2.2.2.2.2.2.2.2.2.2.2.2.2.2)) rfl (pi (fun r14 u15 hw => ?_))
          refine v_to (wCD G a0 u15.1 u15.2.1 u15.2.2.1 u15.2.2.2.1 u15.2.2.2.2.1 u15.2.2.2.2.2.1 u15.2.2.2.2.2.2 ++ wMod G a1 w1.1 w1.2.1 w1.2.2.1 w1.2.2.2.1 w1.2.2.2.2.1 w1.2.2.2.2.2.1 w1.2.2.2.2.2.2.1 w1.2.2.2.2.2.2.2.1 w1.2.2.2.2.2.2.2.2.1 w1.2.2.2.2.2.2.2.2.2.1 w1.2.2.2.2.2.2.2.2.2.2.1 w1.2.2.2.2.2.2.2.2.2.2.2.1 w1.2.2.2.2.2.2.2.2.2.2.2.2.1 w1.2.2.2.2.2.2.2.2.2.2.2.2.2.1 w1.2.2.2.2.2.2.2.2.2.2.2.2.2.2.1 w1.2.2.2.2.2.2.2.2.2.2.2.2.2.2.2.1 w1.2.2.2.2.2.2.2.2.2.2.2.2.2.2.2.2) 165 [(0, .ref b), (1, .ref a0.1), (2, .ref a1.1), (3, .int x3)] _ [.int r14] rfl rfl rfl rfl ?_
          refine v_aload_n (pc2 := 166) S 2 dL_law_165 rfl rfl rfl ?_
          refine v_aload_n (pc2 := 167) S 0 dL_law_166 rfl rfl rfl ?_
          refine v_iload_n (pc2 := 168) S 3 dL_law_167 rfl rfl rfl ?_
          refine v_iconst (v := 1) (pc2 := 169) S dL_law_168 (by decide) rfl ?_
          refine v_iadd (pc2 := 170) S dL_law_169 rfl ?_
          obtain ⟨h16, hw⟩ := hw
          refine v_sld (pc2 := 171) S hX hbl h16 dL_law_170 rfl ?_
          refine v_callV (pc2 := 174) (As := [.int (xs (x3 + (1 : Int32)).toNatClampNeg)]) (rest := [.int r14]) S (c_X9_open l G a1 w1 (xs (x3 + (1 : Int32)).toNatClampNeg) _ hw) mf_X9_open u_854 u_855 u_856 0 9 rfl rfl rfl rfl ⟨rfl, rfl⟩ ⟨Nat.le_of_ble_eq_true rfl, Nat.le_of_ble_eq_true rfl⟩ ⟨Nat.le_of_ble_eq_true rfl, Nat.le_of_ble_eq_true rfl⟩ (Nat.le_of_ble_eq_true rfl) dL_law_171 (frM (wCD G a0 u15.1 u15.2.1 u15.2.2.1 u15.2.2.2.1 u15.2.2.2.2.1 u15.2.2.2.2.2.1 u15.2.2.2.2.2.2) (wMod G a1 w1.1 w1.2.1 w1.2.2.1 w1.2.2.2.1 w1.2.2.2.2.1 w1.2.2.2.2.2.1 w1.2.2.2.2.2.2.1 w1.2.2.2.2.2.2.2.1 w1.2.2.2.2.2.2.2.2.1 w1.2.2.2.2.2.2.2.2.2.1 w1.2.2.2.2.2.2.2.2.2.2.1 w1.2.2.2.2.2.2.2.2.2.2.2.1 w1.2.2.2.2.2.2.2.2.2.2.2.2.1 w1.2.2.2.2.2.2.2.2.2.2.2.2.2.1 w1.2.2.2.2.2.2.2.2.2.2.2.2.2.2.1 w1.2.2.2.2.2.2.2.2.2.2.2.2.2.2.2.1 w1.2.2.2.2.2.2.2.2.2.2.2.2.2.2.2.2) ([])) rfl (pi (fun r17 u18 hw => ?_))
          refine v_to (wCD G a0 u15.1 u15.2.1 u15.2.2.1 u15.2.2.2.1 u15.2.2.2.2.1 u15.2.2.2.2.2.1 u15.2.2.2.2.2.2 ++ wMod G a1 u18.1 u18.2.1 u18.2.2.1 u18.2.2.2.1 u18.2.2.2.2.1 u18.2.2.2.2.2.1 u18.2.2.2.2.2.2.1 u18.2.2.2.2.2.2.2.1 u18.2.2.2.2.2.2.2.2.1 u18.2.2.2.2.2.2.2.2.2.1 u18.2.2.2.2.2.2.2.2.2.2.1 u18.2.2.2.2.2.2.2.2.2.2.2.1 u18.2.2.2.2.2.2.2.2.2.2.2.2.1 u18.2.2.2.2.2.2.2.2.2.2.2.2.2.1 u18.2.2.2.2.2.2.2.2.2.2.2.2.2.2.1 u18.2.2.2.2.2.2.2.2.2.2.2.2.2.2.2.1 u18.2.2.2.2.2.2.2.2.2.2.2.2.2.2.2.2) 174 [(0, .ref b), (1, .ref a0.1), (2, .ref a1.1), (3, .int x3)] _ [.int r17, .int r14] rfl rfl rfl rfl ?_
          refine v_icmp_eq (pc2 := 177) (tgt := 891) S dL_law_174 (by decide) rfl (fun c19 => ?_) (fun c19 => ?_)
          · have hw := hw.1 c19
            obtain ⟨z20, ez20⟩ : ∃ y : Int32, y = x3 + (4 : Int32) := ⟨_, rfl⟩
            have hw := hw z20 ez20
            refine v_iinc (v := z20) (lv2 := [(0, .ref b), (1, .ref a0.1), (2, .ref a1.1), (3, .int z20)]) (pc2 := 894) S 3 dL_law_891 rfl (by rw [ez20]; rfl) (by decide) [1, 2, 3, 0] rfl rfl ?_
            refine v_goto (tgt := 18) S dL_law_894 (by decide) ?_
            exact ih z20 u15 u18 hw
          · have hw := hw.2 c19
            refine v_iconst (v := 0) (pc2 := 178) S dL_law_177 (by decide) rfl ?_
            exact hw.elim
        · have hw := hw.2
          by_cases c21 : z11 = (1 : Int32)
          · have hw := hw.1 c21
            refine v_tableIn (off := 147) (tgt := 179) S dL_law_32 (by rw [c21]; decide) (by rw [c21]; decide) (by rw [c21]; rfl) (by decide) ?_
            refine v_aload_n (pc2 := 180) S 1 dL_law_179 rfl rfl rfl ?_
            refine v_aload_n (pc2 := 181) S 0 dL_law_180 rfl rfl rfl ?_
            refine v_iload_n (pc2 := 182) S 3 dL_law_181 rfl rfl rfl ?_
            refine v_iconst (v := 1) (pc2 := 183) S dL_law_182 (by decide) rfl ?_
            refine v_iadd (pc2 := 184) S dL_law_183 rfl ?_
            obtain ⟨h22, hw⟩ := hw
            refine v_sld (pc2 := 185) S hX hbl h22 dL_law_184 rfl ?_
            refine v_callV (pc2 := 188) (As := [.int (xs (x3 + (1 : Int32)).toNatClampNeg)]) (rest := []) S (c_X8_shut l G a0 w0 (xs (x3 + (1 : Int32)).toNatClampNeg) _ hw) mf_X8_shut u_396 u_397 u_398 0 8 rfl rfl rfl rfl ⟨rfl, rfl⟩ ⟨Nat.le_of_ble_eq_true rfl, Nat.le_of_ble_eq_true rfl⟩ ⟨Nat.le_of_ble_eq_true rfl, Nat.le_of_ble_eq_true rfl⟩ (Nat.le_of_ble_eq_true rfl) dL_law_185 (frM ([]) (wCD G a0 w0.1 w0.2.1 w0.2.2.1 w0.2.2.2.1 w0.2.2.2.2.1 w0.2.2.2.2.2.1 w0.2.2.2.2.2.2) (wMod G a1 w1.1 w1.2.1 w1.2.2.1 w1.2.2.2.1 w1.2.2.2.2.1 w1.2.2.2.2.2.1 w1.2.2.2.2.2.2.1 w1.2.2.2.2.2.2.2.1 w1.2.2.2.2.2.2.2.2.1 w1.2.2.2.2.2.2.2.2.2.1 w1.2.2.2.2.2.2.2.2.2.2.1 w1.2.2.2.2.2.2.2.2.2.2.2.1 w1.2.2.2.2.2.2.2.2.2.2.2.2.1 w1.2.2.2.2.2.2.2.2.2.2.2.2.2.1 w1.2.2.2.2.2.2.2.2.2.2.2.2.2.2.1 w1.2.2.2.2.2.2.2.2.2.2.2.2.2.2.2.1 w1.2.2.2.2.2.2.2.2.2.2.2.2.2.2.2.2)) rfl (pi (fun r23 u24 hw => ?_))
            refine v_to (wCD G a0 u24.1 u24.2.1 u24.2.2.1 u24.2.2.2.1 u24.2.2.2.2.1 u24.2.2.2.2.2.1 u24.2.2.2.2.2.2 ++ wMod G a1 w1.1 w1.2.1 w1.2.2.1 w1.2.2.2.1 w1.2.2.2.2.1 w1.2.2.2.2.2.1 w1.2.2.2.2.2.2.1 w1.2.2.2.2.2.2.2.1 w1.2.2.2.2.2.2.2.2.1 w1.2.2.2.2.2.2.2.2.2.1 w1.2.2.2.2.2.2.2.2.2.2.1 w1.2.2.2.2.2.2.2.2.2.2.2.1 w1.2.2.2.2.2.2.2.2.2.2.2.2.1 w1.2.2.2.2.2.2.2.2.2.2.2.2.2.1 w1.2.2.2.2.2.2.2.2.2.2.2.2.2.2.1 w1.2.2.2.2.2.2.2.2.2.2.2.2.2.2.2.1 w1.2.2.2.2.2.2.2.2.2.2.2.2.2.2.2.2) 188 [(0, .ref b), (1, .ref a0.1), (2, .ref a1.1), (3, .int x3)] _ [.int r23] rfl rfl rfl rfl ?_
            refine v_aload_n (pc2 := 189) S 2 dL_law_188 rfl rfl rfl ?_
            refine v_aload_n (pc2 := 190) S 0 dL_law_189 rfl rfl rfl ?_
            refine v_iload_n (pc2 := 191) S 3 dL_law_190 rfl rfl rfl ?_
            refine v_iconst (v := 1) (pc2 := 192) S dL_law_191 (by decide) rfl ?_
            refine v_iadd (pc2 := 193) S dL_law_192 rfl ?_
            obtain ⟨h25, hw⟩ := hw
            refine v_sld (pc2 := 194) S hX hbl h25 dL_law_193 rfl ?_
            refine v_callV (pc2 := 197) (As := [.int (xs (x3 + (1 : Int32)).toNatClampNeg)]) (rest := [.int r23]) S (c_X9_shut l G a1 w1 (xs (x3 + (1 : Int32)).toNatClampNeg) _ hw) mf_X9_shut u_908 u_909 u_910 0 9 rfl rfl rfl rfl ⟨rfl, rfl⟩ ⟨Nat.le_of_ble_eq_true rfl, Nat.le_of_ble_eq_true rfl⟩ ⟨Nat.le_of_ble_eq_true rfl, Nat.le_of_ble_eq_true rfl⟩ (Nat.le_of_ble_eq_true rfl) dL_law_194 (frM (wCD G a0 u24.1 u24.2.1 u24.2.2.1 u24.2.2.2.1 u24.2.2.2.2.1 u24.2.2.2.2.2.1 u24.2.2.2.2.2.2) (wMod G a1 w1.1 w1.2.1 w1.2.2.1 w1.2.2.2.1 w1.2.2.2.2.1 w1.2.2.2.2.2.1 w1.2.2.2.2.2.2.1 w1.2.2.2.2.2.2.2.1 w1.2.2.2.2.2.2.2.2.1 w1.2.2.2.2.2.2.2.2.2.1 w1.2.2.2.2.2.2.2.2.2.2.1 w1.2.2.2.2.2.2.2.2.2.2.2.1 w1.2.2.2.2.2.2.2.2.2.2.2.2.1 w1.2.2.2.2.2.2.2.2.2.2.2.2.2.1 w1.2.2.2.2.2.2.2.2.2.2.2.2.2.2.1 w1.2.2.2.2.2.2.2.2.2.2.2.2.2.2.2.1 w1.2.2.2.2.2.2.2.2.2.2.2.2.2.2.2.2) ([])) rfl (pi (fun r26 u27 hw => ?_))
            refine v_to (wCD G a0 u24.1 u24.2.1 u24.2.2.1 u24.2.2.2.1 u24.2.2.2.2.1 u24.2.2.2.2.2.1 u24.2.2.2.2.2.2 ++ wMod G a1 u27.1 u27.2.1 u27.2.2.1 u27.2.2.2.1 u27.2.2.2.2.1 u27.2.2.2.2.2.1 u27.2.2.2.2.2.2.1 u27.2.2.2.2.2.2.2.1 u27.2.2.2.2.2.2.2.2.1 u27.2.2.2.2.2.2.2.2.2.1 u27.2.2.2.2.2.2.2.2.2.2.1 u27.2.2.2.2.2.2.2.2.2.2.2.1 u27.2.2.2.2.2.2.2.2.2.2.2.2.1 u27.2.2.2.2.2.2.2.2.2.2.2.2.2.1 u27.2.2.2.2.2.2.2.2.2.2.2.2.2.2.1 u27.2.2.2.2.2.2.2.2.2.2.2.2.2.2.2.1 u27.2.2.2.2.2.2.2.2.2.2.2.2.2.2.2.2) 197 [(0, .ref b), (1, .ref a0.1), (2, .ref a1.1), (3, .int x3)] _ [.int r26, .int r23] rfl rfl rfl rfl ?_
            refine v_icmp_eq (pc2 := 200) (tgt := 891) S dL_law_197 (by decide) rfl (fun c28 => ?_) (fun c28 => ?_)
            · have hw := hw.1 c28
              obtain ⟨z29, ez29⟩ : ∃ y : Int32, y = x3 + (4 : Int32) := ⟨_, rfl⟩
              have hw := hw z29 ez29
              refine v_iinc (v := z29) (lv2 := [(0, .ref b), (1, .ref a0.1), (2, .ref a1.1), (3, .int z29)]) (pc2 := 894) S 3 dL_law_891 rfl (by rw [ez29]; rfl) (by decide) [1, 2, 3, 0] rfl rfl ?_
              refine v_goto (tgt := 18) S dL_law_894 (by decide) ?_
              exact ih z29 u24 u27 hw
            · have hw := hw.2 c28
              refine v_iconst (v := 0) (pc2 := 201) S dL_law_200 (by decide) rfl ?_
              exact hw.elim
          · have hw := hw.2
            by_cases c30 : z11 = (2 : Int32)
            · have hw := hw.1 c30
              refine v_tableIn (off := 170) (tgt := 202) S dL_law_32 (by rw [c30]; decide) (by rw [c30]; decide) (by rw [c30]; rfl) (by decide) ?_
              refine v_aload_n (pc2 := 203) S 1 dL_law_202 rfl rfl rfl ?_
              refine v_aload_n (pc2 := 204) S 0 dL_law_203 rfl rfl rfl ?_
              refine v_iload_n (pc2 := 205) S 3 dL_law_204 rfl rfl rfl ?_
              refine v_iconst (v := 1) (pc2 := 206) S dL_law_205 (by decide) rfl ?_
              refine v_iadd (pc2 := 207) S dL_law_206 rfl ?_
              obtain ⟨h31, hw⟩ := hw
              refine v_sld (pc2 := 208) S hX hbl h31 dL_law_207 rfl ?_
              refine v_aload_n (pc2 := 209) S 0 dL_law_208 rfl rfl rfl ?_
              refine v_iload_n (pc2 := 210) S 3 dL_law_209 rfl rfl rfl ?_
              refine v_iconst (v := 2) (pc2 := 211) S dL_law_210 (by decide) rfl ?_
              refine v_iadd (pc2 := 212) S dL_law_211 rfl ?_
              obtain ⟨h32, hw⟩ := hw
              refine v_sld (pc2 := 213) S hX hbl h32 dL_law_212 rfl ?_
              refine v_if_eq (pc2 := 216) (tgt := 220) S dL_law_213 (by decide) rfl (fun c33 => ?_) (fun c33 => ?_)
              · have hw := hw.1 c33
                refine v_iconst (v := 0) (pc2 := 221) S dL_law_220 (by decide) rfl ?_
                exact B221 a0 a1 x3 (xs (x3 + (1 : Int32)).toNatClampNeg) (0 : Int32) w0 w1 (wp_L_law_L18 xs L Q n) ih hw
              · have hw := hw.2 c33
                refine v_iconst (v := 1) (pc2 := 217) S dL_law_216 (by decide) rfl ?_
                refine v_goto (tgt := 221) S dL_law_217 (by decide) ?_
                exact B221 a0 a1 x3 (xs (x3 + (1 : Int32)).toNatClampNeg) (1 : Int32) w0 w1 (wp_L_law_L18 xs L Q n) ih hw
            · have hw := hw.2
              by_cases c45 : z11 = (3 : Int32)
              · have hw := hw.1 c45
                refine v_tableIn (off := 229) (tgt := 261) S dL_law_32 (by rw [c45]; decide) (by rw [c45]; decide) (by rw [c45]; rfl) (by decide) ?_
                refine v_aload_n (pc2 := 262) S 1 dL_law_261 rfl rfl rfl ?_
                refine v_aload_n (pc2 := 263) S 0 dL_law_262 rfl rfl rfl ?_
                refine v_iload_n (pc2 := 264) S 3 dL_law_263 rfl rfl rfl ?_
                refine v_iconst (v := 1) (pc2 := 265) S dL_law_264 (by decide) rfl ?_
                refine v_iadd (pc2 := 266) S dL_law_265 rfl ?_
                obtain ⟨h46, hw⟩ := hw
                refine v_sld (pc2 := 267) S hX hbl h46 dL_law_266 rfl ?_
                refine v_aload_n (pc2 := 268) S 0 dL_law_267 rfl rfl rfl ?_
                refine v_iload_n (pc2 := 269) S 3 dL_law_268 rfl rfl rfl ?_
                refine v_iconst (v := 2) (pc2 := 270) S dL_law_269 (by decide) rfl ?_
                refine v_iadd (pc2 := 271) S dL_law_270 rfl ?_
                obtain ⟨h47, hw⟩ := hw
                refine v_sld (pc2 := 272) S hX hbl h47 dL_law_271 rfl ?_
                refine v_aload_n (pc2 := 273) S 0 dL_law_272 rfl rfl rfl ?_
                refine v_iload_n (pc2 := 274) S 3 dL_law_273 rfl rfl rfl ?_
                refine v_iconst (v := 3) (pc2 := 275) S dL_law_274 (by decide) rfl ?_
                refine v_iadd (pc2 := 276) S dL_law_275 rfl ?_
                obtain ⟨h48, hw⟩ := hw
                refine v_sld (pc2 := 277) S hX hbl h48 dL_law_276 rfl ?_
                refine v_callV (pc2 := 280) (As := [.int (xs (x3 + (1 : Int32)).toNatClampNeg), .int (xs (x3 + (2 : Int32)).toNatClampNeg), .int (xs (x3 + (3 : Int32)).toNatClampNeg)]) (rest := []) S (c_X8_join l G a0 w0 (xs (x3 + (1 : Int32)).toNatClampNeg) (xs (x3 + (2 : Int32)).toNatClampNeg) (xs (x3 + (3 : Int32)).toNatClampNeg) _ hw) mf_X8_join u_433 u_434 u_435 0 8 rfl rfl rfl rfl ⟨rfl, rfl⟩ ⟨Nat.le_of_ble_eq_true rfl, Nat.le_of_ble_eq_true rfl⟩ ⟨Nat.le_of_ble_eq_true rfl, Nat.le_of_ble_eq_true rfl⟩ (Nat.le_of_ble_eq_true rfl) dL_law_277 (frM ([]) (wCD G a0 w0.1 w0.2.1 w0.2.2.1 w0.2.2.2.1 w0.2.2.2.2.1 w0.2.2.2.2.2.1 w0.2.2.2.2.2.2) (wMod G a1 w1.1 w1.2.1 w1.2.2.1 w1.2.2.2.1 w1.2.2.2.2.1 w1.2.2.2.2.2.1 w1.2.2.2.2.2.2.1 w1.2.2.2.2.2.2.2.1 w1.2.2.2.2.2.2.2.2.1 w1.2.2.2.2.2.2.2.2.2.1 w1.2.2.2.2.2.2.2.2.2.2.1 w1.2.2.2.2.2.2.2.2.2.2.2.1 w1.2.2.2.2.2.2.2.2.2.2.2.2.1 w1.2.2.2.2.2.2.2.2.2.2.2.2.2.1 w1.2.2.2.2.2.2.2.2.2.2.2.2.2.2.1 w1.2.2.2.2.2.2.2.2.2.2.2.2.2.2.2.1 w1.2.2.2.2.2.2.2.2.2.2.2.2.2.2.2.2)) rfl (pi (fun r49 u50 hw => ?_))
                refine v_to (wCD G a0 u50.1 u50.2.1 u50.2.2.1 u50.2.2.2.1 u50.2.2.2.2.1 u50.2.2.2.2.2.1 u50.2.2.2.2.2.2 ++ wMod G a1 w1.1 w1.2.1 w1.2.2.1 w1.2.2.2.1 w1.2.2.2.2.1 w1.2.2.2.2.2.1 w1.2.2.2.2.2.2.1 w1.2.2.2.2.2.2.2.1 w1.2.2.2.2.2.2.2.2.1 w1.2.2.2.2.2.2.2.2.2.1 w1.2.2.2.2.2.2.2.2.2.2.1 w1.2.2.2.2.2.2.2.2.2.2.2.1 w1.2.2.2.2.2.2.2.2.2.2.2.2.1 w1.2.2.2.2.2.2.2.2.2.2.2.2.2.1 w1.2.2.2.2.2.2.2.2.2.2.2.2.2.2.1 w1.2.2.2.2.2.2.2.2.2.2.2.2.2.2.2.1 w1.2.2.2.2.2.2.2.2.2.2.2.2.2.2.2.2) 280 [(0, .ref b), (1, .ref a0.1), (2, .ref a1.1), (3, .int x3)] _ [.int r49] rfl rfl rfl rfl ?_
                refine v_aload_n (pc2 := 281) S 2 dL_law_280 rfl rfl rfl ?_
                refine v_aload_n (pc2 := 282) S 0 dL_law_281 rfl rfl rfl ?_
                refine v_iload_n (pc2 := 283) S 3 dL_law_282 rfl rfl rfl ?_
                refine v_iconst (v := 1) (pc2 := 284) S dL_law_283 (by decide) rfl ?_
                refine v_iadd (pc2 := 285) S dL_law_284 rfl ?_
                obtain ⟨h51, hw⟩ := hw
                refine v_sld (pc2 := 286) S hX hbl h51 dL_law_285 rfl ?_
                refine v_aload_n (pc2 := 287) S 0 dL_law_286 rfl rfl rfl ?_
                refine v_iload_n (pc2 := 288) S 3 dL_law_287 rfl rfl rfl ?_
                refine v_iconst (v := 2) (pc2 := 289) S dL_law_288 (by decide) rfl ?_
                refine v_iadd (pc2 := 290) S dL_law_289 rfl ?_
                obtain ⟨h52, hw⟩ := hw
                refine v_sld (pc2 := 291) S hX hbl h52 dL_law_290 rfl ?_
                refine v_aload_n (pc2 := 292) S 0 dL_law_291 rfl rfl rfl ?_
                refine v_iload_n (pc2 := 293) S 3 dL_law_292 rfl rfl rfl ?_
                refine v_iconst (v := 3) (pc2 := 294) S dL_law_293 (by decide) rfl ?_
                refine v_iadd (pc2 := 295) S dL_law_294 rfl ?_
                obtain ⟨h53, hw⟩ := hw
                refine v_sld (pc2 := 296) S hX hbl h53 dL_law_295 rfl ?_
                refine v_callV (pc2 := 299) (As := [.int (xs (x3 + (1 : Int32)).toNatClampNeg), .int (xs (x3 + (2 : Int32)).toNatClampNeg), .int (xs (x3 + (3 : Int32)).toNatClampNeg)]) (rest := [.int r49]) S (c_X9_join l G a1 w1 (xs (x3 + (1 : Int32)).toNatClampNeg) (xs (x3 + (2 : Int32)).toNatClampNeg) (xs (x3 + (3 : Int32)).toNatClampNeg) _ hw) mf_X9_join u_963 u_964 u_965 0 9 rfl rfl rfl rfl ⟨rfl, rfl⟩ ⟨Nat.le_of_ble_eq_true rfl, Nat.le_of_ble_eq_true rfl⟩ ⟨Nat.le_of_ble_eq_true rfl, Nat.le_of_ble_eq_true rfl⟩ (Nat.le_of_ble_eq_true rfl) dL_law_296 (frM (wCD G a0 u50.1 u50.2.1 u50.2.2.1 u50.2.2.2.1 u50.2.2.2.2.1 u50.2.2.2.2.2.1 u50.2.2.2.2.2.2) (wMod G a1 w1.1 w1.2.1 w1.2.2.1 w1.2.2.2.1 w1.2.2.2.2.1 w1.2.2.2.2.2.1 w1.2.2.2.2.2.2.1 w1.2.2.2.2.2.2.2.1 w1.2.2.2.2.2.2.2.2.1 w1.2.2.2.2.2.2.2.2.2.1 w1.2.2.2.2.2.2.2.2.2.2.1 w1.2.2.2.2.2.2.2.2.2.2.2.1 w1.2.2.2.2.2.2.2.2.2.2.2.2.1 w1.2.2.2.2.2.2.2.2.2.2.2.2.2.1 w1.2.2.2.2.2.2.2.2.2.2.2.2.2.2.1 w1.2.2.2.2.2.2.2.2.2.2.2.2.2.2.2.1 w1.2.2.2.2.2.2.2.2.2.2.2.2.2.2.2.2) ([])) rfl (pi (fun r54 u55 hw => ?_))
                refine v_to (wCD G a0 u50.1 u50.2.1 u50.2.2.1 u50.2.2.2.1 u50.2.2.2.2.1 u50.2.2.2.2.2.1 u50.2.2.2.2.2.2 ++ wMod G a1 u55.1 u55.2.1 u55.2.2.1 u55.2.2.2.1 u55.2.2.2.2.1 u55.2.2.2.2.2.1 u55.2.2.2.2.2.2.1 u55.2.2.2.2.2.2.2.1 u55.2.2.2.2.2.2.2.2.1 u55.2.2.2.2.2.2.2.2.2.1 u55.2.2.2.2.2.2.2.2.2.2.1 u55.2.2.2.2.2.2.2.2.2.2.2.1 u55.2.2.2.2.2.2.2.2.2.2.2.2.1 u55.2.2.2.2.2.2.2.2.2.2.2.2.2.1 u55.2.2.2.2.2.2.2.2.2.2.2.2.2.2.1 u55.2.2.2.2.2.2.2.2.2.2.2.2.2.2.2.1 u55.2.2.2.2.2.2.2.2.2.2.2.2.2.2.2.2) 299 [(0, .ref b), (1, .ref a0.1), (2, .ref a1.1), (3, .int x3)] _ [.int r54, .int r49] rfl rfl rfl rfl ?_
                refine v_icmp_eq (pc2 := 302) (tgt := 891) S dL_law_299 (by decide) rfl (fun c56 => ?_) (fun c56 => ?_)
                · have hw := hw.1 c56
                  obtain ⟨z57, ez57⟩ : ∃ y : Int32, y = x3 + (4 : Int32) := ⟨_, rfl⟩
                  have hw := hw z57 ez57
                  refine v_iinc (v := z57) (lv2 := [(0, .ref b), (1, .ref a0.1), (2, .ref a1.1), (3, .int z57)]) (pc2 := 894) S 3 dL_law_891 rfl (by rw [ez57]; rfl) (by decide) [1, 2, 3, 0] rfl rfl ?_
                  refine v_goto (tgt := 18) S dL_law_894 (by decide) ?_
                  exact ih z57 u50 u55 hw
                · have hw := hw.2 c56
                  refine v_iconst (v := 0) (pc2 := 303) S dL_law_302 (by decide) rfl ?_
                  exact hw.elim
              · have hw := hw.2
                by_cases c58 : z11 = (4 : Int32)
                · have hw := hw.1 c58
                  refine v_tableIn (off := 272) (tgt := 304) S dL_law_32 (by rw [c58]; decide) (by rw [c58]; decide) (by rw [c58]; rfl) (by decide) ?_
                  refine v_aload_n (pc2 := 305) S 1 dL_law_304 rfl rfl rfl ?_
                  refine v_aload_n (pc2 := 306) S 0 dL_law_305 rfl rfl rfl ?_
                  refine v_iload_n (pc2 := 307) S 3 dL_law_306 rfl rfl rfl ?_
                  refine v_iconst (v := 1) (pc2 := 308) S dL_law_307 (by decide) rfl ?_
                  refine v_iadd (pc2 := 309) S dL_law_308 rfl ?_
                  obtain ⟨h59, hw⟩ := hw
                  refine v_sld (pc2 := 310) S hX hbl h59 dL_law_309 rfl ?_
                  refine v_aload_n (pc2 := 311) S 0 dL_law_310 rfl rfl rfl ?_
                  refine v_iload_n (pc2 := 312) S 3 dL_law_311 rfl rfl rfl ?_
                  refine v_iconst (v := 2) (pc2 := 313) S dL_law_312 (by decide) rfl ?_
                  refine v_iadd (pc2 := 314) S dL_law_313 rfl ?_
                  obtain ⟨h60, hw⟩ := hw
                  refine v_sld (pc2 := 315) S hX hbl h60 dL_law_314 rfl ?_
                  refine v_callV (pc2 := 318) (As := [.int (xs (x3 + (1 : Int32)).toNatClampNeg), .int (xs (x3 + (2 : Int32)).toNatClampNeg)]) (rest := []) S (c_X8_keys l G a0 w0 (xs (x3 + (1 : Int32)).toNatClampNeg) (xs (x3 + (2 : Int32)).toNatClampNeg) _ hw) mf_X8_keys u_450 u_451 u_452 0 8 rfl rfl rfl rfl ⟨rfl, rfl⟩ ⟨Nat.le_of_ble_eq_true rfl, Nat.le_of_ble_eq_true rfl⟩ ⟨Nat.le_of_ble_eq_true rfl, Nat.le_of_ble_eq_true rfl⟩ (Nat.le_of_ble_eq_true rfl) dL_law_315 (frM ([]) (wCD G a0 w0.1 w0.2.1 w0.2.2.1 w0.2.2.2.1 w0.2.2.2.2.1 w0.2.2.2.2.2.1 w0.2.2.2.2.2.2) (wMod G a1 w1.1 w1.2.1 w1.2.2.1 w1.2.2.2.1 w1.2.2.2.2.1 w1.2.2.2.2.2.1 w1.2.2.2.2.2.2.1 w1.2.2.2.2.2.2.2.1 w1.2.2.2.2.2.2.2.2.1 w1.2.2.2.2.2.2.2.2.2.1 w1.2.2.2.2.2.2.2.2.2.2.1 w1.2.2.2.2.2.2.2.2.2.2.2.1 w1.2.2.2.2.2.2.2.2.2.2.2.2.1 w1.2.2.2.2.2.2.2.2.2.2.2.2.2.1 w1.2.2.2.2.2.2.2.2.2.2.2.2.2.2.1 w1.2.2.2.2.2.2.2.2.2.2.2.2.2.2.2.1 w1.2.2.2.2.2.2.2.2.2.2.2.2.2.2.2.2)) rfl (pi (fun r61 u62 hw => ?_))
                  refine v_to (wCD G a0 u62.1 u62.2.1 u62.2.2.1 u62.2.2.2.1 u62.2.2.2.2.1 u62.2.2.2.2.2.1 u62.2.2.2.2.2.2 ++ wMod G a1 w1.1 w1.2.1 w1.2.2.1 w1.2.2.2.1 w1.2.2.2.2.1 w1.2.2.2.2.2.1 w1.2.2.2.2.2.2.1 w1.2.2.2.2.2.2.2.1 w1.2.2.2.2.2.2.2.2.1 w1.2.2.2.2.2.2.2.2.2.1 w1.2.2.2.2.2.2.2.2.2.2.1 w1.2.2.2.2.2.2.2.2.2.2.2.1 w1.2.2.2.2.2.2.2.2.2.2.2.2.1 w1.2.2.2.2.2.2.2.2.2.2.2.2.2.1 w1.2.2.2.2.2.2.2.2.2.2.2.2.2.2.1 w1.2.2.2.2.2.2.2.2.2.2.2.2.2.2.2.1 w1.2.2.2.2.2.2.2.2.2.2.2.2.2.2.2.2) 318 [(0, .ref b), (1, .ref a0.1), (2, .ref a1.1), (3, .int x3)] _ [.int r61] rfl rfl rfl rfl ?_
                  refine v_aload_n (pc2 := 319) S 2 dL_law_318 rfl rfl rfl ?_
                  refine v_aload_n (pc2 := 320) S 0 dL_law_319 rfl rfl rfl ?_
                  refine v_iload_n (pc2 := 321) S 3 dL_law_320 rfl rfl rfl ?_
                  refine v_iconst (v := 1) (pc2 := 322) S dL_law_321 (by decide) rfl ?_
                  refine v_iadd (pc2 := 323) S dL_law_322 rfl ?_
                  obtain ⟨h63, hw⟩ := hw
                  refine v_sld (pc2 := 324) S hX hbl h63 dL_law_323 rfl ?_
                  refine v_aload_n (pc2 := 325) S 0 dL_law_324 rfl rfl rfl ?_
                  refine v_iload_n (pc2 := 326) S 3 dL_law_325 rfl rfl rfl ?_
                  refine v_iconst (v := 2) (pc2 := 327) S dL_law_326 (by decide) rfl ?_
                  refine v_iadd (pc2 := 328) S dL_law_327 rfl ?_
                  obtain ⟨h64, hw⟩ := hw
                  refine v_sld (pc2 := 329) S hX hbl h64 dL_law_328 rfl ?_
                  refine v_callV (pc2 := 332) (As := [.int (xs (x3 + (1 : Int32)).toNatClampNeg), .int (xs (x3 + (2 : Int32)).toNatClampNeg)]) (rest := [.int r61]) S (c_X9_keys l G a1 w1 (xs (x3 + (1 : Int32)).toNatClampNeg) (xs (x3 + (2 : Int32)).toNatClampNeg) _ hw) mf_X9_keys u_978 u_979 u_980 0 9 rfl rfl rfl rfl ⟨rfl, rfl⟩ ⟨Nat.le_of_ble_eq_true rfl, Nat.le_of_ble_eq_true rfl⟩ ⟨Nat.le_of_ble_eq_true rfl, Nat.le_of_ble_eq_true rfl⟩ (Nat.le_of_ble_eq_true rfl) dL_law_329 (frM (wCD G a0 u62.1 u62.2.1 u62.2.2.1 u62.2.2.2.1 u62.2.2.2.2.1 u62.2.2.2.2.2.1 u62.2.2.2.2.2.2) (wMod G a1 w1.1 w1.2.1 w1.2.2.1 w1.2.2.2.1 w1.2.2.2.2.1 w1.2.2.2.2.2.1 w1.2.2.2.2.2.2.1 w1.2.2.2.2.2.2.2.1 w1.2.2.2.2.2.2.2.2.1 w1.2.2.2.2.2.2.2.2.2.1 w1.2.2.2.2.2.2.2.2.2.2.1 w1.2.2.2.2.2.2.2.2.2.2.2.1 w1.2.2.2.2.2.2.2.2.2.2.2.2.1 w1.2.2.2.2.2.2.2.2.2.2.2.2.2.1 w1.2.2.2.2.2.2.2.2.2.2.2.2.2.2.1 w1.2.2.2.2.2.2.2.2.2.2.2.2.2.2.2.1 w1.2.2.2.2.2.2.2.2.2.2.2.2.2.2.2.2) ([])) rfl (pi (fun r65 u66 hw => ?_))
                  refine v_to (wCD G a0 u62.1 u62.2.1 u62.2.2.1 u62.2.2.2.1 u62.2.2.2.2.1 u62.2.2.2.2.2.1 u62.2.2.2.2.2.2 ++ wMod G a1 u66.1 u66.2.1 u66.2.2.1 u66.2.2.2.1 u66.2.2.2.2.1 u66.2.2.2.2.2.1 u66.2.2.2.2.2.2.1 u66.2.2.2.2.2.2.2.1 u66.2.2.2.2.2.2.2.2.1 u66.2.2.2.2.2.2.2.2.2.1 u66.2.2.2.2.2.2.2.2.2.2.1 u66.2.2.2.2.2.2.2.2.2.2.2.1 u66.2.2.2.2.2.2.2.2.2.2.2.2.1 u66.2.2.2.2.2.2.2.2.2.2.2.2.2.1 u66.2.2.2.2.2.2.2.2.2.2.2.2.2.2.1 u66.2.2.2.2.2.2.2.2.2.2.2.2.2.2.2.1 u66.2.2.2.2.2.2.2.2.2.2.2.2.2.2.2.2) 332 [(0, .ref b), (1, .ref a0.1), (2, .ref a1.1), (3, .int x3)] _ [.int r65, .int r61] rfl rfl rfl rfl ?_
                  refine v_icmp_eq (pc2 := 335) (tgt := 891) S dL_law_332 (by decide) rfl (fun c67 => ?_) (fun c67 => ?_)
                  · have hw := hw.1 c67
                    obtain ⟨z68, ez68⟩ : ∃ y : Int32, y = x3 + (4 : Int32) := ⟨_, rfl⟩
                    have hw := hw z68 ez68
                    refine v_iinc (v := z68) (lv2 := [(0, .ref b), (1, .ref a0.1), (2, .ref a1.1), (3, .int z68)]) (pc2 := 894) S 3 dL_law_891 rfl (by rw [ez68]; rfl) (by decide) [1, 2, 3, 0] rfl rfl ?_
                    refine v_goto (tgt := 18) S dL_law_894 (by decide) ?_
                    exact ih z68 u62 u66 hw
                  · have hw := hw.2 c67
                    refine v_iconst (v := 0) (pc2 := 336) S dL_law_335 (by decide) rfl ?_
                    exact hw.elim
                · have hw := hw.2
                  by_cases c69 : z11 = (5 : Int32)
                  · have hw := hw.1 c69
                    refine v_tableIn (off := 305) (tgt := 337) S dL_law_32 (by rw [c69]; decide) (by rw [c69]; decide) (by rw [c69]; rfl) (by decide) ?_
                    refine v_aload_n (pc2 := 338) S 1 dL_law_337 rfl rfl rfl ?_
                    refine v_aload_n (pc2 := 339) S 0 dL_law_338 rfl rfl rfl ?_
                    refine v_iload_n (pc2 := 340) S 3 dL_law_339 rfl rfl rfl ?_
                    refine v_iconst (v := 1) (pc2 := 341) S dL_law_340 (by decide) rfl ?_
                    refine v_iadd (pc2 := 342) S dL_law_341 rfl ?_
                    obtain ⟨h70, hw⟩ := hw
                    refine v_sld (pc2 := 343) S hX hbl h70 dL_law_342 rfl ?_
                    refine v_callV (pc2 := 346) (As := [.int (xs (x3 + (1 : Int32)).toNatClampNeg)]) (rest := []) S (c_X8_draft l G a0 w0 (xs (x3 + (1 : Int32)).toNatClampNeg) _ hw) mf_X8_draft u_460 u_461 u_462 0 8 rfl rfl rfl rfl ⟨rfl, rfl⟩ ⟨Nat.le_of_ble_eq_true rfl, Nat.le_of_ble_eq_true rfl⟩ ⟨Nat.le_of_ble_eq_true rfl, Nat.le_of_ble_eq_true rfl⟩ (Nat.le_of_ble_eq_true rfl) dL_law_343 (frM ([]) (wCD G a0 w0.1 w0.2.1 w0.2.2.1 w0.2.2.2.1 w0.2.2.2.2.1 w0.2.2.2.2.2.1 w0.2.2.2.2.2.2) (wMod G a1 w1.1 w1.2.1 w1.2.2.1 w1.2.2.2.1 w1.2.2.2.2.1 w1.2.2.2.2.2.1 w1.2.2.2.2.2.2.1 w1.2.2.2.2.2.2.2.1 w1.2.2.2.2.2.2.2.2.1 w1.2.2.2.2.2.2.2.2.2.1 w1.2.2.2.2.2.2.2.2.2.2.1 w1.2.2.2.2.2.2.2.2.2.2.2.1 w1.2.2.2.2.2.2.2.2.2.2.2.2.1 w1.2.2.2.2.2.2.2.2.2.2.2.2.2.1 w1.2.2.2.2.2.2.2.2.2.2.2.2.2.2.1 w1.2.2.2.2.2.2.2.2.2.2.2.2.2.2.2.1 w1.2.2.2.2.2.2.2.2.2.2.2.2.2.2.2.2)) rfl (pi (fun r71 u72 hw => ?_))
                    refine v_to (wCD G a0 u72.1 u72.2.1 u72.2.2.1 u72.2.2.2.1 u72.2.2.2.2.1 u72.2.2.2.2.2.1 u72.2.2.2.2.2.2 ++ wMod G a1 w1.1 w1.2.1 w1.2.2.1 w1.2.2.2.1 w1.2.2.2.2.1 w1.2.2.2.2.2.1 w1.2.2.2.2.2.2.1 w1.2.2.2.2.2.2.2.1 w1.2.2.2.2.2.2.2.2.1 w1.2.2.2.2.2.2.2.2.2.1 w1.2.2.2.2.2.2.2.2.2.2.1 w1.2.2.2.2.2.2.2.2.2.2.2.1 w1.2.2.2.2.2.2.2.2.2.2.2.2.1 w1.2.2.2.2.2.2.2.2.2.2.2.2.2.1 w1.2.2.2.2.2.2.2.2.2.2.2.2.2.2.1 w1.2.2.2.2.2.2.2.2.2.2.2.2.2.2.2.1 w1.2.2.2.2.2.2.2.2.2.2.2.2.2.2.2.2) 346 [(0, .ref b), (1, .ref a0.1), (2, .ref a1.1), (3, .int x3)] _ [.int r71] rfl rfl rfl rfl ?_
                    refine v_aload_n (pc2 := 347) S 2 dL_law_346 rfl rfl rfl ?_
                    refine v_aload_n (pc2 := 348) S 0 dL_law_347 rfl rfl rfl ?_
                    refine v_iload_n (pc2 := 349) S 3 dL_law_348 rfl rfl rfl ?_
                    refine v_iconst (v := 1) (pc2 := 350) S dL_law_349 (by decide) rfl ?_
                    refine v_iadd (pc2 := 351) S dL_law_350 rfl ?_
                    obtain ⟨h73, hw⟩ := hw
                    refine v_sld (pc2 := 352) S hX hbl h73 dL_law_351 rfl ?_
                    refine v_callV (pc2 := 355) (As := [.int (xs (x3 + (1 : Int32)).toNatClampNeg)]) (rest := [.int r71]) S (c_X9_draft l G a1 w1 (xs (x3 + (1 : Int32)).toNatClampNeg) _ hw) mf_X9_draft u_982 u_983 u_984 0 9 rfl rfl rfl rfl ⟨rfl, rfl⟩ ⟨Nat.le_of_ble_eq_true rfl, Nat.le_of_ble_eq_true rfl⟩ ⟨Nat.le_of_ble_eq_true rfl, Nat.le_of_ble_eq_true rfl⟩ (Nat.le_of_ble_eq_true rfl) dL_law_352 (frM (wCD G a0 u72.1 u72.2.1 u72.2.2.1 u72.2.2.2.1 u72.2.2.2.2.1 u72.2.2.2.2.2.1 u72.2.2.2.2.2.2) (wMod G a1 w1.1 w1.2.1 w1.2.2.1 w1.2.2.2.1 w1.2.2.2.2.1 w1.2.2.2.2.2.1 w1.2.2.2.2.2.2.1 w1.2.2.2.2.2.2.2.1 w1.2.2.2.2.2.2.2.2.1 w1.2.2.2.2.2.2.2.2.2.1 w1.2.2.2.2.2.2.2.2.2.2.1 w1.2.2.2.2.2.2.2.2.2.2.2.1 w1.2.2.2.2.2.2.2.2.2.2.2.2.1 w1.2.2.2.2.2.2.2.2.2.2.2.2.2.1 w1.2.2.2.2.2.2.2.2.2.2.2.2.2.2.1 w1.2.2.2.2.2.2.2.2.2.2.2.2.2.2.2.1 w1.2.2.2.2.2.2.2.2.2.2.2.2.2.2.2.2) ([])) rfl (pi (fun r74 u75 hw => ?_))
                    refine v_to (wCD G a0 u72.1 u72.2.1 u72.2.2.1 u72.2.2.2.1 u72.2.2.2.2.1 u72.2.2.2.2.2.1 u72.2.2.2.2.2.2 ++ wMod G a1 u75.1 u75.2.1 u75.2.2.1 u75.2.2.2.1 u75.2.2.2.2.1 u75.2.2.2.2.2.1 u75.2.2.2.2.2.2.1 u75.2.2.2.2.2.2.2.1 u75.2.2.2.2.2.2.2.2.1 u75.2.2.2.2.2.2.2.2.2.1 u75.2.2.2.2.2.2.2.2.2.2.1 u75.2.2.2.2.2.2.2.2.2.2.2.1 u75.2.2.2.2.2.2.2.2.2.2.2.2.1 u75.2.2.2.2.2.2.2.2.2.2.2.2.2.1 u75.2.2.2.2.2.2.2.2.2.2.2.2.2.2.1 u75.2.2.2.2.2.2.2.2.2.2.2.2.2.2.2.1 u75.2.2.2.2.2.2.2.2.2.2.2.2.2.2.2.2) 355 [(0, .ref b), (1, .ref a0.1), (2, .ref a1.1), (3, .int x3)] _ [.int r74, .int r71] rfl rfl rfl rfl ?_
                    refine v_icmp_eq (pc2 := 358) (tgt := 891) S dL_law_355 (by decide) rfl (fun c76 => ?_) (fun c76 => ?_)
                    · have hw := hw.1 c76
                      obtain ⟨z77, ez77⟩ : ∃ y : Int32, y = x3 + (4 : Int32) := ⟨_, rfl⟩
                      have hw := hw z77 ez77
                      refine v_iinc (v := z77) (lv2 := [(0, .ref b), (1, .ref a0.1), (2, .ref a1.1), (3, .int z77)]) (pc2 := 894) S 3 dL_law_891 rfl (by rw [ez77]; rfl) (by decide) [1, 2, 3, 0] rfl rfl ?_
                      refine v_goto (tgt := 18) S dL_law_894 (by decide) ?_
                      exact ih z77 u72 u75 hw
                    · have hw := hw.2 c76
                      refine v_iconst (v := 0) (pc2 := 359) S dL_law_358 (by decide) rfl ?_
                      exact hw.elim
                  · have hw := hw.2
                    by_cases c78 : z11 = (6 : Int32)
                    · have hw := hw.1 c78
                      refine v_tableIn (off := 328) (tgt := 360) S dL_law_32 (by rw [c78]; decide) (by rw [c78]; decide) (by rw [c78]; rfl) (by decide) ?_
                      refine v_aload_n (pc2 := 361) S 1 dL_law_360 rfl rfl rfl ?_
                      refine v_aload_n (pc2 := 362) S 0 dL_law_361 rfl rfl rfl ?_
                      refine v_iload_n (pc2 := 363) S 3 dL_law_362 rfl rfl rfl ?_
                      refine v_iconst (v := 1) (pc2 := 364) S dL_law_363 (by decide) rfl ?_
                      refine v_iadd (pc2 := 365) S dL_law_364 rfl ?_
                      obtain ⟨h79, hw⟩ := hw
                      refine v_sld (pc2 := 366) S hX hbl h79 dL_law_365 rfl ?_
                      refine v_aload_n (pc2 := 367) S 0 dL_law_366 rfl rfl rfl ?_
                      refine v_iload_n (pc2 := 368) S 3 dL_law_367 rfl rfl rfl ?_
                      refine v_iconst (v := 2) (pc2 := 369) S dL_law_368 (by decide) rfl ?_
                      refine v_iadd (pc2 := 370) S dL_law_369 rfl ?_
                      obtain ⟨h80, hw⟩ := hw
                      refine v_sld (pc2 := 371) S hX hbl h80 dL_law_370 rfl ?_
                      refine v_callV (pc2 := 374) (As := [.int (xs (x3 + (1 : Int32)).toNatClampNeg), .int (xs (x3 + (2 : Int32)).toNatClampNeg)]) (rest := []) S (c_X8_guestOpens l G a0 w0 (xs (x3 + (1 : Int32)).toNatClampNeg) (xs (x3 + (2 : Int32)).toNatClampNeg) _ hw) mf_X8_guestOpens u_464 u_465 u_466 0 8 rfl rfl rfl rfl ⟨rfl, rfl⟩ ⟨Nat.le_of_ble_eq_true rfl, Nat.le_of_ble_eq_true rfl⟩ ⟨Nat.le_of_ble_eq_true rfl, Nat.le_of_ble_eq_true rfl⟩ (Nat.le_of_ble_eq_true rfl) dL_law_371 (frM ([]) (wCD G a0 w0.1 w0.2.1 w0.2.2.1 w0.2.2.2.1 w0.2.2.2.2.1 w0.2.2.2.2.2.1 w0.2.2.2.2.2.2) (wMod G a1 w1.1 w1.2.1 w1.2.2.1 w1.2.2.2.1 w1.2.2.2.2.1 w1.2.2.2.2.2.1 w1.2.2.2.2.2.2.1 w1.2.2.2.2.2.2.2.1 w1.2.2.2.2.2.2.2.2.1 w1.2.2.2.2.2.2.2.2.2.1 w1.2.2.2.2.2.2.2.2.2.2.1 w1.2.2.2.2.2.2.2.2.2.2.2.1 w1.2.2.2.2.2.2.2.2.2.2.2.2.1 w1.2.2.2.2.2.2.2.2.2.2.2.2.2.1 w1.2.2.2.2.2.2.2.2.2.2.2.2.2.2.1 w1.2.2.2.2.2.2.2.2.2.2.2.2.2.2.2.1 w1.2.2.2.2.2.2.2.2.2.2.2.2.2.2.2.2)) rfl (pi (fun r81 u82 hw => ?_))
                      refine v_to (wCD G a0 u82.1 u82.2.1 u82.2.2.1 u82.2.2.2.1 u82.2.2.2.2.1 u82.2.2.2.2.2.1 u82.2.2.2.2.2.2 ++ wMod G a1 w1.1 w1.2.1 w1.2.2.1 w1.2.2.2.1 w1.2.2.2.2.1 w1.2.2.2.2.2.1 w1.2.2.2.2.2.2.1 w1.2.2.2.2.2.2.2.1 w1.2.2.2.2.2.2.2.2.1 w1.2.2.2.2.2.2.2.2.2.1 w1.2.2.2.2.2.2.2.2.2.2.1 w1.2.2.2.2.2.2.2.2.2.2.2.1 w1.2.2.2.2.2.2.2.2.2.2.2.2.1 w1.2.2.2.2.2.2.2.2.2.2.2.2.2.1 w1.2.2.2.2.2.2.2.2.2.2.2.2.2.2.1 w1.2.2.2.2.2.2.2.2.2.2.2.2.2.2.2.1 w1.2.2.2.2.2.2.2.2.2.2.2.2.2.2.2.2) 374 [(0, .ref b), (1, .ref a0.1), (2, .ref a1.1), (3, .int x3)] _ [.int r81] rfl rfl rfl rfl ?_
                      refine v_aload_n (pc2 := 375) S 2 dL_law_374 rfl rfl rfl ?_
                      refine v_aload_n (pc2 := 376) S 0 dL_law_375 rfl rfl rfl ?_
                      refine v_iload_n (pc2 := 377) S 3 dL_law_376 rfl rfl rfl ?_
                      refine v_iconst (v := 1) (pc2 := 378) S dL_law_377 (by decide) rfl ?_
                      refine v_iadd (pc2 := 379) S dL_law_378 rfl ?_
                      obtain ⟨h83, hw⟩ := hw
                      refine v_sld (pc2 := 380) S hX hbl h83 dL_law_379 rfl ?_
                      refine v_aload_n (pc2 := 381) S 0 dL_law_380 rfl rfl rfl ?_
                      refine v_iload_n (pc2 := 382) S 3 dL_law_381 rfl rfl rfl ?_
                      refine v_iconst (v := 2) (pc2 := 383) S dL_law_382 (by decide) rfl ?_
                      refine v_iadd (pc2 := 384) S dL_law_383 rfl ?_
                      obtain ⟨h84, hw⟩ := hw
                      refine v_sld (pc2 := 385) S hX hbl h84 dL_law_384 rfl ?_
                      refine v_callV (pc2 := 388) (As := [.int (xs (x3 + (1 : Int32)).toNatClampNeg), .int (xs (x3 + (2 : Int32)).toNatClampNeg)]) (rest := [.int r81]) S (c_X9_guestOpens l G a1 w1 (xs (x3 + (1 : Int32)).toNatClampNeg) (xs (x3 + (2 : Int32)).toNatClampNeg) _ hw) mf_X9_guestOpens u_916 u_917 u_918 0 9 rfl rfl rfl rfl ⟨rfl, rfl⟩ ⟨Nat.le_of_ble_eq_true rfl, Nat.le_of_ble_eq_true rfl⟩ ⟨Nat.le_of_ble_eq_true rfl, Nat.le_of_ble_eq_true rfl⟩ (Nat.le_of_ble_eq_true rfl) dL_law_385 (frM (wCD G a0 u82.1 u82.2.1 u82.2.2.1 u82.2.2.2.1 u82.2.2.2.2.1 u82.2.2.2.2.2.1 u82.2.2.2.2.2.2) (wMod G a1 w1.1 w1.2.1 w1.2.2.1 w1.2.2.2.1 w1.2.2.2.2.1 w1.2.2.2.2.2.1 w1.2.2.2.2.2.2.1 w1.2.2.2.2.2.2.2.1 w1.2.2.2.2.2.2.2.2.1 w1.2.2.2.2.2.2.2.2.2.1 w1.2.2.2.2.2.2.2.2.2.2.1 w1.2.2.2.2.2.2.2.2.2.2.2.1 w1.2.2.2.2.2.2.2.2.2.2.2.2.1 w1.2.2.2.2.2.2.2.2.2.2.2.2.2.1 w1.2.2.2.2.2.2.2.2.2.2.2.2.2.2.1 w1.2.2.2.2.2.2.2.2.2.2.2.2.2.2.2.1 w1.2.2.2.2.2.2.2.2.2.2.2.2.2.2.2.2) ([])) rfl (pi (fun r85 u86 hw => ?_))
                      refine v_to (wCD G a0 u82.1 u82.2.1 u82.2.2.1 u82.2.2.2.1 u82.2.2.2.2.1 u82.2.2.2.2.2.1 u82.2.2.2.2.2.2 ++ wMod G a1 u86.1 u86.2.1 u86.2.2.1 u86.2.2.2.1 u86.2.2.2.2.1 u86.2.2.2.2.2.1 u86.2.2.2.2.2.2.1 u86.2.2.2.2.2.2.2.1 u86.2.2.2.2.2.2.2.2.1 u86.2.2.2.2.2.2.2.2.2.1 u86.2.2.2.2.2.2.2.2.2.2.1 u86.2.2.2.2.2.2.2.2.2.2.2.1 u86.2.2.2.2.2.2.2.2.2.2.2.2.1 u86.2.2.2.2.2.2.2.2.2.2.2.2.2.1 u86.2.2.2.2.2.2.2.2.2.2.2.2.2.2.1 u86.2.2.2.2.2.2.2.2.2.2.2.2.2.2.2.1 u86.2.2.2.2.2.2.2.2.2.2.2.2.2.2.2.2) 388 [(0, .ref b), (1, .ref a0.1), (2, .ref a1.1), (3, .int x3)] _ [.int r85, .int r81] rfl rfl rfl rfl ?_
                      refine v_icmp_eq (pc2 := 391) (tgt := 891) S dL_law_388 (by decide) rfl (fun c87 => ?_) (fun c87 => ?_)
                      · have hw := hw.1 c87
                        obtain ⟨z88, ez88⟩ : ∃ y : Int32, y = x3 + (4 : Int32) := ⟨_, rfl⟩
                        have hw := hw z88 ez88
                        refine v_iinc (v := z88) (lv2 := [(0, .ref b), (1, .ref a0.1), (2, .ref a1.1), (3, .int z88)]) (pc2 := 894) S 3 dL_law_891 rfl (by rw [ez88]; rfl) (by decide) [1, 2, 3, 0] rfl rfl ?_
                        refine v_goto (tgt := 18) S dL_law_894 (by decide) ?_
                        exact ih z88 u82 u86 hw
                      · have hw := hw.2 c87
                        refine v_iconst (v := 0) (pc2 := 392) S dL_law_391 (by decide) rfl ?_
                        exact hw.elim
                    · have hw := hw.2
                      by_cases c89 : z11 = (7 : Int32)
                      · have hw := hw.1 c89
                        refine v_tableIn (off := 361) (tgt := 393) S dL_law_32 (by rw [c89]; decide) (by rw [c89]; decide) (by rw [c89]; rfl) (by decide) ?_
                        refine v_aload_n (pc2 := 394) S 1 dL_law_393 rfl rfl rfl ?_
                        refine v_aload_n (pc2 := 395) S 0 dL_law_394 rfl rfl rfl ?_
                        refine v_iload_n (pc2 := 396) S 3 dL_law_395 rfl rfl rfl ?_
                        refine v_iconst (v := 1) (pc2 := 397) S dL_law_396 (by decide) rfl ?_
                        refine v_iadd (pc2 := 398) S dL_law_397 rfl ?_
                        obtain ⟨h90, hw⟩ := hw
                        refine v_sld (pc2 := 399) S hX hbl h90 dL_law_398 rfl ?_
                        refine v_aload_n (pc2 := 400) S 0 dL_law_399 rfl rfl rfl ?_
                        refine v_iload_n (pc2 := 401) S 3 dL_law_400 rfl rfl rfl ?_
                        refine v_iconst (v := 2) (pc2 := 402) S dL_law_401 (by decide) rfl ?_
                        refine v_iadd (pc2 := 403) S dL_law_402 rfl ?_
                        obtain ⟨h91, hw⟩ := hw
                        refine v_sld (pc2 := 404) S hX hbl h91 dL_law_403 rfl ?_
                        refine v_callV (pc2 := 407) (As := [.int (xs (x3 + (1 : Int32)).toNatClampNeg), .int (xs (x3 + (2 : Int32)).toNatClampNeg)]) (rest := []) S (c_X8_guestShuts l G a0 w0 (xs (x3 + (1 : Int32)).toNatClampNeg) (xs (x3 + (2 : Int32)).toNatClampNeg) _ hw) mf_X8_guestShuts u_484 u_485 u_486 0 8 rfl rfl rfl rfl ⟨rfl, rfl⟩ ⟨Nat.le_of_ble_eq_true rfl, Nat.le_of_ble_eq_true rfl⟩ ⟨Nat.le_of_ble_eq_true rfl, Nat.le_of_ble_eq_true rfl⟩ (Nat.le_of_ble_eq_true rfl) dL_law_404 (frM ([]) (wCD G a0 w0.1 w0.2.1 w0.2.2.1 w0.2.2.2.1 w0.2.2.2.2.1 w0.2.2.2.2.2.1 w0.2.2.2.2.2.2) (wMod G a1 w1.1 w1.2.1 w1.2.2.1 w1.2.2.2.1 w1.2.2.2.2.1 w1.2.2.2.2.2.1 w1.2.2.2.2.2.2.1 w1.2.2.2.2.2.2.2.1 w1.2.2.2.2.2.2.2.2.1 w1.2.2.2.2.2.2.2.2.2.1 w1.2.2.2.2.2.2.2.2.2.2.1 w1.2.2.2.2.2.2.2.2.2.2.2.1 w1.2.2.2.2.2.2.2.2.2.2.2.2.1 w1.2.2.2.2.2.2.2.2.2.2.2.2.2.1 w1.2.2.2.2.2.2.2.2.2.2.2.2.2.2.1 w1.2.2.2.2.2.2.2.2.2.2.2.2.2.2.2.1 w1.2.2.2.2.2.2.2.2.2.2.2.2.2.2.2.2)) rfl (pi (fun r92 u93 hw => ?_))
                        refine v_to (wCD G a0 u93.1 u93.2.1 u93.2.2.1 u93.2.2.2.1 u93.2.2.2.2.1 u93.2.2.2.2.2.1 u93.2.2.2.2.2.2 ++ wMod G a1 w1.1 w1.2.1 w1.2.2.1 w1.2.2.2.1 w1.2.2.2.2.1 w1.2.2.2.2.2.1 w1.2.2.2.2.2.2.1 w1.2.2.2.2.2.2.2.1 w1.2.2.2.2.2.2.2.2.1 w1.2.2.2.2.2.2.2.2.2.1 w1.2.2.2.2.2.2.2.2.2.2.1 w1.2.2.2.2.2.2.2.2.2.2.2.1 w1.2.2.2.2.2.2.2.2.2.2.2.2.1 w1.2.2.2.2.2.2.2.2.2.2.2.2.2.1 w1.2.2.2.2.2.2.2.2.2.2.2.2.2.2.1 w1.2.2.2.2.2.2.2.2.2.2.2.2.2.2.2.1 w1.2.2.2.2.2.2.2.2.2.2.2.2.2.2.2.2) 407 [(0, .ref b), (1, .ref a0.1), (2, .ref a1.1), (3, .int x3)] _ [.int r92] rfl rfl rfl rfl ?_
                        refine v_aload_n (pc2 := 408) S 2 dL_law_407 rfl rfl rfl ?_
                        refine v_aload_n (pc2 := 409) S 0 dL_law_408 rfl rfl rfl ?_
                        refine v_iload_n (pc2 := 410) S 3 dL_law_409 rfl rfl rfl ?_
                        refine v_iconst (v := 1) (pc2 := 411) S dL_law_410 (by decide) rfl ?_
                        refine v_iadd (pc2 := 412) S dL_law_411 rfl ?_
                        obtain ⟨h94, hw⟩ := hw
                        refine v_sld (pc2 := 413) S hX hbl h94 dL_law_412 rfl ?_
                        refine v_aload_n (pc2 := 414) S 0 dL_law_413 rfl rfl rfl ?_
                        refine v_iload_n (pc2 := 415) S 3 dL_law_414 rfl rfl rfl ?_
                        refine v_iconst (v := 2) (pc2 := 416) S dL_law_415 (by decide) rfl ?_
                        refine v_iadd (pc2 := 417) S dL_law_416 rfl ?_
                        obtain ⟨h95, hw⟩ := hw
                        refine v_sld (pc2 := 418) S hX hbl h95 dL_law_417 rfl ?_
                        refine v_callV (pc2 := 421) (As := [.int (xs (x3 + (1 : Int32)).toNatClampNeg), .int (xs (x3 + (2 : Int32)).toNatClampNeg)]) (rest := [.int r92]) S (c_X9_guestShuts l G a1 w1 (xs (x3 + (1 : Int32)).toNatClampNeg) (xs (x3 + (2 : Int32)).toNatClampNeg) _ hw) mf_X9_guestShuts u_939 u_940 u_941 0 9 rfl rfl rfl rfl ⟨rfl, rfl⟩ ⟨Nat.le_of_ble_eq_true rfl, Nat.le_of_ble_eq_true rfl⟩ ⟨Nat.le_of_ble_eq_true rfl, Nat.le_of_ble_eq_true rfl⟩ (Nat.le_of_ble_eq_true rfl) dL_law_418 (frM (wCD G a0 u93.1 u93.2.1 u93.2.2.1 u93.2.2.2.1 u93.2.2.2.2.1 u93.2.2.2.2.2.1 u93.2.2.2.2.2.2) (wMod G a1 w1.1 w1.2.1 w1.2.2.1 w1.2.2.2.1 w1.2.2.2.2.1 w1.2.2.2.2.2.1 w1.2.2.2.2.2.2.1 w1.2.2.2.2.2.2.2.1 w1.2.2.2.2.2.2.2.2.1 w1.2.2.2.2.2.2.2.2.2.1 w1.2.2.2.2.2.2.2.2.2.2.1 w1.2.2.2.2.2.2.2.2.2.2.2.1 w1.2.2.2.2.2.2.2.2.2.2.2.2.1 w1.2.2.2.2.2.2.2.2.2.2.2.2.2.1 w1.2.2.2.2.2.2.2.2.2.2.2.2.2.2.1 w1.2.2.2.2.2.2.2.2.2.2.2.2.2.2.2.1 w1.2.2.2.2.2.2.2.2.2.2.2.2.2.2.2.2) ([])) rfl (pi (fun r96 u97 hw => ?_))
                        refine v_to (wCD G a0 u93.1 u93.2.1 u93.2.2.1 u93.2.2.2.1 u93.2.2.2.2.1 u93.2.2.2.2.2.1 u93.2.2.2.2.2.2 ++ wMod G a1 u97.1 u97.2.1 u97.2.2.1 u97.2.2.2.1 u97.2.2.2.2.1 u97.2.2.2.2.2.1 u97.2.2.2.2.2.2.1 u97.2.2.2.2.2.2.2.1 u97.2.2.2.2.2.2.2.2.1 u97.2.2.2.2.2.2.2.2.2.1 u97.2.2.2.2.2.2.2.2.2.2.1 u97.2.2.2.2.2.2.2.2.2.2.2.1 u97.2.2.2.2.2.2.2.2.2.2.2.2.1 u97.2.2.2.2.2.2.2.2.2.2.2.2.2.1 u97.2.2.2.2.2.2.2.2.2.2.2.2.2.2.1 u97.2.2.2.2.2.2.2.2.2.2.2.2.2.2.2.1 u97.2.2.2.2.2.2.2.2.2.2.2.2.2.2.2.2) 421 [(0, .ref b), (1, .ref a0.1), (2, .ref a1.1), (3, .int x3)] _ [.int r96, .int r92] rfl rfl rfl rfl ?_
                        refine v_icmp_eq (pc2 := 424) (tgt := 891) S dL_law_421 (by decide) rfl (fun c98 => ?_) (fun c98 => ?_)
                        · have hw := hw.1 c98
                          obtain ⟨z99, ez99⟩ : ∃ y : Int32, y = x3 + (4 : Int32) := ⟨_, rfl⟩
                          have hw := hw z99 ez99
                          refine v_iinc (v := z99) (lv2 := [(0, .ref b), (1, .ref a0.1), (2, .ref a1.1), (3, .int z99)]) (pc2 := 894) S 3 dL_law_891 rfl (by rw [ez99]; rfl) (by decide) [1, 2, 3, 0] rfl rfl ?_
                          refine v_goto (tgt := 18) S dL_law_894 (by decide) ?_
                          exact ih z99 u93 u97 hw
                        · have hw := hw.2 c98
                          refine v_iconst (v := 0) (pc2 := 425) S dL_law_424 (by decide) rfl ?_
                          exact hw.elim
                      · have hw := hw.2
                        by_cases c100 : z11 = (8 : Int32)
                        · have hw := hw.1 c100
                          refine v_tableIn (off := 394) (tgt := 426) S dL_law_32 (by rw [c100]; decide) (by rw [c100]; decide) (by rw [c100]; rfl) (by decide) ?_
                          refine v_aload_n (pc2 := 427) S 1 dL_law_426 rfl rfl rfl ?_
                          refine v_aload_n (pc2 := 428) S 0 dL_law_427 rfl rfl rfl ?_
                          refine v_iload_n (pc2 := 429) S 3 dL_law_428 rfl rfl rfl ?_
                          refine v_iconst (v := 1) (pc2 := 430) S dL_law_429 (by decide) rfl ?_
                          refine v_iadd (pc2 := 431) S dL_law_430 rfl ?_
                          obtain ⟨h101, hw⟩ := hw
                          refine v_sld (pc2 := 432) S hX hbl h101 dL_law_431 rfl ?_
                          refine v_aload_n (pc2 := 433) S 0 dL_law_432 rfl rfl rfl ?_
                          refine v_iload_n (pc2 := 434) S 3 dL_law_433 rfl rfl rfl ?_
                          refine v_iconst (v := 2) (pc2 := 435) S dL_law_434 (by decide) rfl ?_
                          refine v_iadd (pc2 := 436) S dL_law_435 rfl ?_
                          obtain ⟨h102, hw⟩ := hw
                          refine v_sld (pc2 := 437) S hX hbl h102 dL_law_436 rfl ?_
                          refine v_callV (pc2 := 440) (As := [.int (xs (x3 + (1 : Int32)).toNatClampNeg), .int (xs (x3 + (2 : Int32)).toNatClampNeg)]) (rest := []) S (c_X8_walk l G a0 w0 (xs (x3 + (1 : Int32)).toNatClampNeg) (xs (x3 + (2 : Int32)).toNatClampNeg) _ hw) mf_X8_walk u_496 u_497 u_498 0 8 rfl rfl rfl rfl ⟨rfl, rfl⟩ ⟨Nat.le_of_ble_eq_true rfl, Nat.le_of_ble_eq_true rfl⟩ ⟨Nat.le_of_ble_eq_true rfl, Nat.le_of_ble_eq_true rfl⟩ (Nat.le_of_ble_eq_true rfl) dL_law_437 (frM ([]) (wCD G a0 w0.1 w0.2.1 w0.2.2.1 w0.2.2.2.1 w0.2.2.2.2.1 w0.2.2.2.2.2.1 w0.2.2.2.2.2.2) (wMod G a1 w1.1 w1.2.1 w1.2.2.1 w1.2.2.2.1 w1.2.2.2.2.1 w1.2.2.2.2.2.1 w1.2.2.2.2.2.2.1 w1.2.2.2.2.2.2.2.1 w1.2.2.2.2.2.2.2.2.1 w1.2.2.2.2.2.2.2.2.2.1 w1.2.2.2.2.2.2.2.2.2.2.1 w1.2.2.2.2.2.2.2.2.2.2.2.1 w1.2.2.2.2.2.2.2.2.2.2.2.2.1 w1.2.2.2.2.2.2.2.2.2.2.2.2.2.1 w1.2.2.2.2.2.2.2.2.2.2.2.2.2.2.1 w1.2.2.2.2.2.2.2.2.2.2.2.2.2.2.2.1 w1.2.2.2.2.2.2.2.2.2.2.2.2.2.2.2.2)) rfl (pi (fun r103 u104 hw => ?_))
                          refine v_to (wCD G a0 u104.1 u104.2.1 u104.2.2.1 u104.2.2.2.1 u104.2.2.2.2.1 u104.2.2.2.2.2.1 u104.2.2.2.2.2.2 ++ wMod G a1 w1.1 w1.2.1 w1.2.2.1 w1.2.2.2.1 w1.2.2.2.2.1 w1.2.2.2.2.2.1 w1.2.2.2.2.2.2.1 w1.2.2.2.2.2.2.2.1 w1.2.2.2.2.2.2.2.2.1 w1.2.2.2.2.2.2.2.2.2.1 w1.2.2.2.2.2.2.2.2.2.2.1 w1.2.2.2.2.2.2.2.2.2.2.2.1 w1.2.2.2.2.2.2.2.2.2.2.2.2.1 w1.2.2.2.2.2.2.2.2.2.2.2.2.2.1 w1.2.2.2.2.2.2.2.2.2.2.2.2.2.2.1 w1.2.2.2.2.2.2.2.2.2.2.2.2.2.2.2.1 w1.2.2.2.2.2.2.2.2.2.2.2.2.2.2.2.2) 440 [(0, .ref b), (1, .ref a0.1), (2, .ref a1.1), (3, .int x3)] _ [.int r103] rfl rfl rfl rfl ?_
                          refine v_aload_n (pc2 := 441) S 2 dL_law_440 rfl rfl rfl ?_
                          refine v_aload_n (pc2 := 442) S 0 dL_law_441 rfl rfl rfl ?_
                          refine v_iload_n (pc2 := 443) S 3 dL_law_442 rfl rfl rfl ?_
                          refine v_iconst (v := 1) (pc2 := 444) S dL_law_443 (by decide) rfl ?_
                          refine v_iadd (pc2 := 445) S dL_law_444 rfl ?_
                          obtain ⟨h105, hw⟩ := hw
                          refine v_sld (pc2 := 446) S hX hbl h105 dL_law_445 rfl ?_
                          refine v_aload_n (pc2 := 447) S 0 dL_law_446 rfl rfl rfl ?_
                          refine v_iload_n (pc2 := 448) S 3 dL_law_447 rfl rfl rfl ?_
                          refine v_iconst (v := 2) (pc2 := 449) S dL_law_448 (by decide) rfl ?_
                          refine v_iadd (pc2 := 450) S dL_law_449 rfl ?_
                          obtain ⟨h106, hw⟩ := hw
                          refine v_sld (pc2 := 451) S hX hbl h106 dL_law_450 rfl ?_
                          refine v_callV (pc2 := 454) (As := [.int (xs (x3 + (1 : Int32)).toNatClampNeg), .int (xs (x3 + (2 : Int32)).toNatClampNeg)]) (rest := [.int r103]) S (c_X9_walk l G a1 w1 (xs (x3 + (1 : Int32)).toNatClampNeg) (xs (x3 + (2 : Int32)).toNatClampNeg) _ hw) mf_X9_walk u_947 u_948 u_949 0 9 rfl rfl rfl rfl ⟨rfl, rfl⟩ ⟨Nat.le_of_ble_eq_true rfl, Nat.le_of_ble_eq_true rfl⟩ ⟨Nat.le_of_ble_eq_true rfl, Nat.le_of_ble_eq_true rfl⟩ (Nat.le_of_ble_eq_true rfl) dL_law_451 (frM (wCD G a0 u104.1 u104.2.1 u104.2.2.1 u104.2.2.2.1 u104.2.2.2.2.1 u104.2.2.2.2.2.1 u104.2.2.2.2.2.2) (wMod G a1 w1.1 w1.2.1 w1.2.2.1 w1.2.2.2.1 w1.2.2.2.2.1 w1.2.2.2.2.2.1 w1.2.2.2.2.2.2.1 w1.2.2.2.2.2.2.2.1 w1.2.2.2.2.2.2.2.2.1 w1.2.2.2.2.2.2.2.2.2.1 w1.2.2.2.2.2.2.2.2.2.2.1 w1.2.2.2.2.2.2.2.2.2.2.2.1 w1.2.2.2.2.2.2.2.2.2.2.2.2.1 w1.2.2.2.2.2.2.2.2.2.2.2.2.2.1 w1.2.2.2.2.2.2.2.2.2.2.2.2.2.2.1 w1.2.2.2.2.2.2.2.2.2.2.2.2.2.2.2.1 w1.2.2.2.2.2.2.2.2.2.2.2.2.2.2.2.2) ([])) rfl (pi (fun r107 u108 hw => ?_))
                          refine v_to (wCD G a0 u104.1 u104.2.1 u104.2.2.1 u104.2.2.2.1 u104.2.2.2.2.1 u104.2.2.2.2.2.1 u104.2.2.2.2.2.2 ++ wMod G a1 u108.1 u108.2.1 u108.2.2.1 u108.2.2.2.1 u108.2.2.2.2.1 u108.2.2.2.2.2.1 u108.2.2.2.2.2.2.1 u108.2.2.2.2.2.2.2.1 u108.2.2.2.2.2.2.2.2.1 u108.2.2.2.2.2.2.2.2.2.1 u108.2.2.2.2.2.2.2.2.2.2.1 u108.2.2.2.2.2.2.2.2.2.2.2.1 u108.2.2.2.2.2.2.2.2.2.2.2.2.1 u108.2.2.2.2.2.2.2.2.2.2.2.2.2.1 u108.2.2.2.2.2.2.2.2.2.2.2.2.2.2.1 u108.2.2.2.2.2.2.2.2.2.2.2.2.2.2.2.1 u108.2.2.2.2.2.2.2.2.2.2.2.2.2.2.2.2) 454 [(0, .ref b), (1, .ref a0.1), (2, .ref a1.1), (3, .int x3)] _ [.int r107, .int r103] rfl rfl rfl rfl ?_
                          refine v_icmp_eq (pc2 := 457) (tgt := 891) S dL_law_454 (by decide) rfl (fun c109 => ?_) (fun c109 => ?_)
                          · have hw := hw.1 c109
                            obtain ⟨z110, ez110⟩ : ∃ y : Int32, y = x3 + (4 : Int32) := ⟨_, rfl⟩
                            have hw := hw z110 ez110
                            refine v_iinc (v := z110) (lv2 := [(0, .ref b), (1, .ref a0.1), (2, .ref a1.1), (3, .int z110)]) (pc2 := 894) S 3 dL_law_891 rfl (by rw [ez110]; rfl) (by decide) [1, 2, 3, 0] rfl rfl ?_
                            refine v_goto (tgt := 18) S dL_law_894 (by decide) ?_
                            exact ih z110 u104 u108 hw
                          · have hw := hw.2 c109
                            refine v_iconst (v := 0) (pc2 := 458) S dL_law_457 (by decide) rfl ?_
                            exact hw.elim
                        · have hw := hw.2
                          by_cases c111 : z11 = (9 : Int32)
                          · have hw := hw.1 c111
                            refine v_tableIn (off := 427) (tgt := 459) S dL_law_32 (by rw [c111]; decide) (by rw [c111]; decide) (by rw [c111]; rfl) (by decide) ?_
                            refine v_aload_n (pc2 := 460) S 1 dL_law_459 rfl rfl rfl ?_
                            refine v_aload_n (pc2 := 461) S 0 dL_law_460 rfl rfl rfl ?_
                            refine v_iload_n (pc2 := 462) S 3 dL_law_461 rfl rfl rfl ?_
                            refine v_iconst (v := 1) (pc2 := 463) S dL_law_462 (by decide) rfl ?_
                            refine v_iadd (pc2 := 464) S dL_law_463 rfl ?_
                            obtain ⟨h112, hw⟩ := hw
                            refine v_sld (pc2 := 465) S hX hbl h112 dL_law_464 rfl ?_
                            refine v_callV (pc2 := 468) (As := [.int (xs (x3 + (1 : Int32)).toNatClampNeg)]) (rest := []) S (c_X8_append l G a0 w0 (xs (x3 + (1 : Int32)).toNatClampNeg) _ hw) mf_X8_append u_508 u_509 u_510 0 8 rfl rfl rfl rfl ⟨rfl, rfl⟩ ⟨Nat.le_of_ble_eq_true rfl, Nat.le_of_ble_eq_true rfl⟩ ⟨Nat.le_of_ble_eq_true rfl, Nat.le_of_ble_eq_true rfl⟩ (Nat.le_of_ble_eq_true rfl) dL_law_465 (frM ([]) (wCD G a0 w0.1 w0.2.1 w0.2.2.1 w0.2.2.2.1 w0.2.2.2.2.1 w0.2.2.2.2.2.1 w0.2.2.2.2.2.2) (wMod G a1 w1.1 w1.2.1 w1.2.2.1 w1.2.2.2.1 w1.2.2.2.2.1 w1.2.2.2.2.2.1 w1.2.2.2.2.2.2.1 w1.2.2.2.2.2.2.2.1 w1.2.2.2.2.2.2.2.2.1 w1.2.2.2.2.2.2.2.2.2.1 w1.2.2.2.2.2.2.2.2.2.2.1 w1.2.2.2.2.2.2.2.2.2.2.2.1 w1.2.2.2.2.2.2.2.2.2.2.2.2.1 w1.2.2.2.2.2.2.2.2.2.2.2.2.2.1 w1.2.2.2.2.2.2.2.2.2.2.2.2.2.2.1 w1.2.2.2.2.2.2.2.2.2.2.2.2.2.2.2.1 w1.2.2.2.2.2.2.2.2.2.2.2.2.2.2.2.2)) rfl (pi (fun r113 u114 hw => ?_))
                            refine v_to (wCD G a0 u114.1 u114.2.1 u114.2.2.1 u114.2.2.2.1 u114.2.2.2.2.1 u114.2.2.2.2.2.1 u114.2.2.2.2.2.2 ++ wMod G a1 w1.1 w1.2.1 w1.2.2.1 w1.2.2.2.1 w1.2.2.2.2.1 w1.2.2.2.2.2.1 w1.2.2.2.2.2.2.1 w1.2.2.2.2.2.2.2.1 w1.2.2.2.2.2.2.2.2.1 w1.2.2.2.2.2.2.2.2.2.1 w1.2.2.2.2.2.2.2.2.2.2.1 w1.2.2.2.2.2.2.2.2.2.2.2.1 w1.2.2.2.2.2.2.2.2.2.2.2.2.1 w1.2.2.2.2.2.2.2.2.2.2.2.2.2.1 w1.2.2.2.2.2.2.2.2.2.2.2.2.2.2.1 w1.2.2.2.2.2.2.2.2.2.2.2.2.2.2.2.1 w1.2.2.2.2.2.2.2.2.2.2.2.2.2.2.2.2) 468 [(0, .ref b), (1, .ref a0.1), (2, .ref a1.1), (3, .int x3)] _ [.int r113] rfl rfl rfl rfl ?_
                            refine v_aload_n (pc2 := 469) S 2 dL_law_468 rfl rfl rfl ?_
                            refine v_aload_n (pc2 := 470) S 0 dL_law_469 rfl rfl rfl ?_
                            refine v_iload_n (pc2 := 471) S 3 dL_law_470 rfl rfl rfl ?_
                            refine v_iconst (v := 1) (pc2 := 472) S dL_law_471 (by decide) rfl ?_
                            refine v_iadd (pc2 := 473) S dL_law_472 rfl ?_
                            obtain ⟨h115, hw⟩ := hw
                            refine v_sld (pc2 := 474) S hX hbl h115 dL_law_473 rfl ?_
                            refine v_callV (pc2 := 477) (As := [.int (xs (x3 + (1 : Int32)).toNatClampNeg)]) (rest := [.int r113]) S (c_X9_append l G a1 w1 (xs (x3 + (1 : Int32)).toNatClampNeg) _ hw) mf_X9_append u_986 u_987 u_988 0 9 rfl rfl rfl rfl ⟨rfl, rfl⟩ ⟨Nat.le_of_ble_eq_true rfl, Nat.le_of_ble_eq_true rfl⟩ ⟨Nat.le_of_ble_eq_true rfl, Nat.le_of_ble_eq_true rfl⟩ (Nat.le_of_ble_eq_true rfl) dL_law_474 (frM (wCD G a0 u114.1 u114.2.1 u114.2.2.1 u114.2.2.2.1 u114.2.2.2.2.1 u114.2.2.2.2.2.1 u114.2.2.2.2.2.2) (wMod G a1 w1.1 w1.2.1 w1.2.2.1 w1.2.2.2.1 w1.2.2.2.2.1 w1.2.2.2.2.2.1 w1.2.2.2.2.2.2.1 w1.2.2.2.2.2.2.2.1 w1.2.2.2.2.2.2.2.2.1 w1.2.2.2.2.2.2.2.2.2.1 w1.2.2.2.2.2.2.2.2.2.2.1 w1.2.2.2.2.2.2.2.2.2.2.2.1 w1.2.2.2.2.2.2.2.2.2.2.2.2.1 w1.2.2.2.2.2.2.2.2.2.2.2.2.2.1 w1.2.2.2.2.2.2.2.2.2.2.2.2.2.2.1 w1.2.2.2.2.2.2.2.2.2.2.2.2.2.2.2.1 w1.2.2.2.2.2.2.2.2.2.2.2.2.2.2.2.2) ([])) rfl (pi (fun r116 u117 hw => ?_))
                            refine v_to (wCD G a0 u114.1 u114.2.1 u114.2.2.1 u114.2.2.2.1 u114.2.2.2.2.1 u114.2.2.2.2.2.1 u114.2.2.2.2.2.2 ++ wMod G a1 u117.1 u117.2.1 u117.2.2.1 u117.2.2.2.1 u117.2.2.2.2.1 u117.2.2.2.2.2.1 u117.2.2.2.2.2.2.1 u117.2.2.2.2.2.2.2.1 u117.2.2.2.2.2.2.2.2.1 u117.2.2.2.2.2.2.2.2.2.1 u117.2.2.2.2.2.2.2.2.2.2.1 u117.2.2.2.2.2.2.2.2.2.2.2.1 u117.2.2.2.2.2.2.2.2.2.2.2.2.1 u117.2.2.2.2.2.2.2.2.2.2.2.2.2.1 u117.2.2.2.2.2.2.2.2.2.2.2.2.2.2.1 u117.2.2.2.2.2.2.2.2.2.2.2.2.2.2.2.1 u117.2.2.2.2.2.2.2.2.2.2.2.2.2.2.2.2) 477 [(0, .ref b), (1, .ref a0.1), (2, .ref a1.1), (3, .int x3)] _ [.int r116, .int r113] rfl rfl rfl rfl ?_
                            refine v_icmp_eq (pc2 := 480) (tgt := 891) S dL_law_477 (by decide) rfl (fun c118 => ?_) (fun c118 => ?_)
                            · have hw := hw.1 c118
                              obtain ⟨z119, ez119⟩ : ∃ y : Int32, y = x3 + (4 : Int32) := ⟨_, rfl⟩
                              have hw := hw z119 ez119
                              refine v_iinc (v := z119) (lv2 := [(0, .ref b), (1, .ref a0.1), (2, .ref a1.1), (3, .int z119)]) (pc2 := 894) S 3 dL_law_891 rfl (by rw [ez119]; rfl) (by decide) [1, 2, 3, 0] rfl rfl ?_
                              refine v_goto (tgt := 18) S dL_law_894 (by decide) ?_
                              exact ih z119 u114 u117 hw
                            · have hw := hw.2 c118
                              refine v_iconst (v := 0) (pc2 := 481) S dL_law_480 (by decide) rfl ?_
                              exact hw.elim
                          · have hw := hw.2
                            by_cases c120 : z11 = (10 : Int32)
                            · have hw := hw.1 c120
                              refine v_tableIn (off := 450) (tgt := 482) S dL_law_32 (by rw [c120]; decide) (by rw [c120]; decide) (by rw [c120]; rfl) (by decide) ?_
                              refine v_aload_n (pc2 := 483) S 1 dL_law_482 rfl rfl rfl ?_
                              refine v_callV (pc2 := 486) (As := []) (rest := []) S (c_X8_clear l G a0 w0 _ hw) mf_X8_clear u_516 u_517 u_518 0 8 rfl rfl rfl rfl ⟨rfl, rfl⟩ ⟨Nat.le_of_ble_eq_true rfl, Nat.le_of_ble_eq_true rfl⟩ ⟨Nat.le_of_ble_eq_true rfl, Nat.le_of_ble_eq_true rfl⟩ (Nat.le_of_ble_eq_true rfl) dL_law_483 (frM ([]) (wCD G a0 w0.1 w0.2.1 w0.2.2.1 w0.2.2.2.1 w0.2.2.2.2.1 w0.2.2.2.2.2.1 w0.2.2.2.2.2.2) (wMod G a1 w1.1 w1.2.1 w1.2.2.1 w1.2.2.2.1 w1.2.2.2.2.1 w1.2.2.2.2.2.1 w1.2.2.2.2.2.2.1 w1.2.2.2.2.2.2.2.1 w1.2.2.2.2.2.2.2.2.1 w1.2.2.2.2.2.2.2.2.2.1 w1.2.2.2.2.2.2.2.2.2.2.1 w1.2.2.2.2.2.2.2.2.2.2.2.1 w1.2.2.2.2.2.2.2.2.2.2.2.2.1 w1.2.2.2.2.2.2.2.2.2.2.2.2.2.1 w1.2.2.2.2.2.2.2.2.2.2.2.2.2.2.1 w1.2.2.2.2.2.2.2.2.2.2.2.2.2.2.2.1 w1.2.2.2.2.2.2.2.2.2.2.2.2.2.2.2.2)) rfl (pi (fun r121 u122 hw => ?_))
                              refine v_to (wCD G a0 u122.1 u122.2.1 u122.2.2.1 u122.2.2.2.1 u122.2.2.2.2.1 u122.2.2.2.2.2.1 u122.2.2.2.2.2.2 ++ wMod G a1 w1.1 w1.2.1 w1.2.2.1 w1.2.2.2.1 w1.2.2.2.2.1 w1.2.2.2.2.2.1 w1.2.2.2.2.2.2.1 w1.2.2.2.2.2.2.2.1 w1.2.2.2.2.2.2.2.2.1 w1.2.2.2.2.2.2.2.2.2.1 w1.2.2.2.2.2.2.2.2.2.2.1 w1.2.2.2.2.2.2.2.2.2.2.2.1 w1.2.2.2.2.2.2.2.2.2.2.2.2.1 w1.2.2.2.2.2.2.2.2.2.2.2.2.2.1 w1.2.2.2.2.2.2.2.2.2.2.2.2.2.2.1 w1.2.2.2.2.2.2.2.2.2.2.2.2.2.2.2.1 w1.2.2.2.2.2.2.2.2.2.2.2.2.2.2.2.2) 486 [(0, .ref b), (1, .ref a0.1), (2, .ref a1.1), (3, .int x3)] _ [.int r121] rfl rfl rfl rfl ?_
                              refine v_aload_n (pc2 := 487) S 2 dL_law_486 rfl rfl rfl ?_
                              refine v_callV (pc2 := 490) (As := []) (rest := [.int r121]) S (c_X9_clear l G a1 w1 _ hw) mf_X9_clear u_990 u_991 u_992 0 9 rfl rfl rfl rfl ⟨rfl, rfl⟩ ⟨Nat.le_of_ble_eq_true rfl, Nat.le_of_ble_eq_true rfl⟩ ⟨Nat.le_of_ble_eq_true rfl, Nat.le_of_ble_eq_true rfl⟩ (Nat.le_of_ble_eq_true rfl) dL_law_487 (frM (wCD G a0 u122.1 u122.2.1 u122.2.2.1 u122.2.2.2.1 u122.2.2.2.2.1 u122.2.2.2.2.2.1 u122.2.2.2.2.2.2) (wMod G a1 w1.1 w1.2.1 w1.2.2.1 w1.2.2.2.1 w1.2.2.2.2.1 w1.2.2.2.2.2.1 w1.2.2.2.2.2.2.1 w1.2.2.2.2.2.2.2.1 w1.2.2.2.2.2.2.2.2.1 w1.2.2.2.2.2.2.2.2.2.1 w1.2.2.2.2.2.2.2.2.2.2.1 w1.2.2.2.2.2.2.2.2.2.2.2.1 w1.2.2.2.2.2.2.2.2.2.2.2.2.1 w1.2.2.2.2.2.2.2.2.2.2.2.2.2.1 w1.2.2.2.2.2.2.2.2.2.2.2.2.2.2.1 w1.2.2.2.2.2.2.2.2.2.2.2.2.2.2.2.1 w1.2.2.2.2.2.2.2.2.2.2.2.2.2.2.2.2) ([])) rfl (pi (fun r123 u124 hw => ?_))
                              refine v_to (wCD G a0 u122.1 u122.2.1 u122.2.2.1 u122.2.2.2.1 u122.2.2.2.2.1 u122.2.2.2.2.2.1 u122.2.2.2.2.2.2 ++ wMod G a1 u124.1 u124.2.1 u124.2.2.1 u124.2.2.2.1 u124.2.2.2.2.1 u124.2.2.2.2.2.1 u124.2.2.2.2.2.2.1 u124.2.2.2.2.2.2.2.1 u124.2.2.2.2.2.2.2.2.1 u124.2.2.2.2.2.2.2.2.2.1 u124.2.2.2.2.2.2.2.2.2.2.1 u124.2.2.2.2.2.2.2.2.2.2.2.1 u124.2.2.2.2.2.2.2.2.2.2.2.2.1 u124.2.2.2.2.2.2.2.2.2.2.2.2.2.1 u124.2.2.2.2.2.2.2.2.2.2.2.2.2.2.1 u124.2.2.2.2.2.2.2.2.2.2.2.2.2.2.2.1 u124.2.2.2.2.2.2.2.2.2.2.2.2.2.2.2.2) 490 [(0, .ref b), (1, .ref a0.1), (2, .ref a1.1), (3, .int x3)] _ [.int r123, .int r121] rfl rfl rfl rfl ?_
                              refine v_icmp_eq (pc2 := 493) (tgt := 891) S dL_law_490 (by decide) rfl (fun c125 => ?_) (fun c125 => ?_)
                              · have hw := hw.1 c125
                                obtain ⟨z126, ez126⟩ : ∃ y : Int32, y = x3 + (4 : Int32) := ⟨_, rfl⟩
                                have hw := hw z126 ez126
                                refine v_iinc (v := z126) (lv2 := [(0, .ref b), (1, .ref a0.1), (2, .ref a1.1), (3, .int z126)]) (pc2 := 894) S 3 dL_law_891 rfl (by rw [ez126]; rfl) (by decide) [1, 2, 3, 0] rfl rfl ?_
                                refine v_goto (tgt := 18) S dL_law_894 (by decide) ?_
                                exact ih z126 u122 u124 hw
                              · have hw := hw.2 c125
                                refine v_iconst (v := 0) (pc2 := 494) S dL_law_493 (by decide) rfl ?_
                                exact hw.elim
                            · have hw := hw.2
                              by_cases c127 : z11 = (11 : Int32)
                              · have hw := hw.1 c127
                                refine v_tableIn (off := 463) (tgt := 495) S dL_law_32 (by rw [c127]; decide) (by rw [c127]; decide) (by rw [c127]; rfl) (by decide) ?_
                                refine v_aload_n (pc2 := 496) S 1 dL_law_495 rfl rfl rfl ?_
                                refine v_callV (pc2 := 499) (As := []) (rest := []) S (c_X8_fault l G a0 w0 _ hw) mf_X8_fault u_524 u_525 u_526 0 8 rfl rfl rfl rfl ⟨rfl, rfl⟩ ⟨Nat.le_of_ble_eq_true rfl, Nat.le_of_ble_eq_true rfl⟩ ⟨Nat.le_of_ble_eq_true rfl, Nat.le_of_ble_eq_true rfl⟩ (Nat.le_of_ble_eq_true rfl) dL_law_496 (frM ([]) (wCD G a0 w0.1 w0.2.1 w0.2.2.1 w0.2.2.2.1 w0.2.2.2.2.1 w0.2.2.2.2.2.1 w0.2.2.2.2.2.2) (wMod G a1 w1.1 w1.2.1 w1.2.2.1 w1.2.2.2.1 w1.2.2.2.2.1 w1.2.2.2.2.2.1 w1.2.2.2.2.2.2.1 w1.2.2.2.2.2.2.2.1 w1.2.2.2.2.2.2.2.2.1 w1.2.2.2.2.2.2.2.2.2.1 w1.2.2.2.2.2.2.2.2.2.2.1 w1.2.2.2.2.2.2.2.2.2.2.2.1 w1.2.2.2.2.2.2.2.2.2.2.2.2.1 w1.2.2.2.2.2.2.2.2.2.2.2.2.2.1 w1.2.2.2.2.2.2.2.2.2.2.2.2.2.2.1 w1.2.2.2.2.2.2.2.2.2.2.2.2.2.2.2.1 w1.2.2.2.2.2.2.2.2.2.2.2.2.2.2.2.2)) rfl (pi (fun r128 u129 hw => ?_))
                                refine v_to (wCD G a0 w0.1 w0.2.1 w0.2.2.1 w0.2.2.2.1 w0.2.2.2.2.1 w0.2.2.2.2.2.1 w0.2.2.2.2.2.2 ++ wMod G a1 w1.1 w1.2.1 w1.2.2.1 w1.2.2.2.1 w1.2.2.2.2.1 w1.2.2.2.2.2.1 w1.2.2.2.2.2.2.1 w1.2.2.2.2.2.2.2.1 w1.2.2.2.2.2.2.2.2.1 w1.2.2.2.2.2.2.2.2.2.1 w1.2.2.2.2.2.2.2.2.2.2.1 w1.2.2.2.2.2.2.2.2.2.2.2.1 w1.2.2.2.2.2.2.2.2.2.2.2.2.1 w1.2.2.2.2.2.2.2.2.2.2.2.2.2.1 w1.2.2.2.2.2.2.2.2.2.2.2.2.2.2.1 w1.2.2.2.2.2.2.2.2.2.2.2.2.2.2.2.1 w1.2.2.2.2.2.2.2.2.2.2.2.2.2.2.2.2) 499 [(0, .ref b), (1, .ref a0.1), (2, .ref a1.1), (3, .int x3)] _ [.int r128] rfl rfl rfl rfl ?_
                                refine v_aload_n (pc2 := 500) S 2 dL_law_499 rfl rfl rfl ?_
                                refine v_callV (pc2 := 503) (As := []) (rest := [.int r128]) S (c_X9_fault l G a1 w1 _ hw) mf_X9_fault u_994 u_995 u_996 0 9 rfl rfl rfl rfl ⟨rfl, rfl⟩ ⟨Nat.le_of_ble_eq_true rfl, Nat.le_of_ble_eq_true rfl⟩ ⟨Nat.le_of_ble_eq_true rfl, Nat.le_of_ble_eq_true rfl⟩ (Nat.le_of_ble_eq_true rfl) dL_law_500 (frM (wCD G a0 w0.1 w0.2.1 w0.2.2.1 w0.2.2.2.1 w0.2.2.2.2.1 w0.2.2.2.2.2.1 w0.2.2.2.2.2.2) (wMod G a1 w1.1 w1.2.1 w1.2.2.1 w1.2.2.2.1 w1.2.2.2.2.1 w1.2.2.2.2.2.1 w1.2.2.2.2.2.2.1 w1.2.2.2.2.2.2.2.1 w1.2.2.2.2.2.2.2.2.1 w1.2.2.2.2.2.2.2.2.2.1 w1.2.2.2.2.2.2.2.2.2.2.1 w1.2.2.2.2.2.2.2.2.2.2.2.1 w1.2.2.2.2.2.2.2.2.2.2.2.2.1 w1.2.2.2.2.2.2.2.2.2.2.2.2.2.1 w1.2.2.2.2.2.2.2.2.2.2.2.2.2.2.1 w1.2.2.2.2.2.2.2.2.2.2.2.2.2.2.2.1 w1.2.2.2.2.2.2.2.2.2.2.2.2.2.2.2.2) ([])) rfl (pi (fun r130 u131 hw => ?_))
                                refine v_to (wCD G a0 w0.1 w0.2.1 w0.2.2.1 w0.2.2.2.1 w0.2.2.2.2.1 w0.2.2.2.2.2.1 w0.2.2.2.2.2.2 ++ wMod G a1 u131.1 u131.2.1 u131.2.2.1 u131.2.2.2.1 u131.2.2.2.2.1 u131.2.2.2.2.2.1 u131.2.2.2.2.2.2.1 u131.2.2.2.2.2.2.2.1 u131.2.2.2.2.2.2.2.2.1 u131.2.2.2.2.2.2.2.2.2.1 u131.2.2.2.2.2.2.2.2.2.2.1 u131.2.2.2.2.2.2.2.2.2.2.2.1 u131.2.2.2.2.2.2.2.2.2.2.2.2.1 u131.2.2.2.2.2.2.2.2.2.2.2.2.2.1 u131.2.2.2.2.2.2.2.2.2.2.2.2.2.2.1 u131.2.2.2.2.2.2.2.2.2.2.2.2.2.2.2.1 u131.2.2.2.2.2.2.2.2.2.2.2.2.2.2.2.2) 503 [(0, .ref b), (1, .ref a0.1), (2, .ref a1.1), (3, .int x3)] _ [.int r130, .int r128] rfl rfl rfl rfl ?_
                                refine v_icmp_eq (pc2 := 506) (tgt := 891) S dL_law_503 (by decide) rfl (fun c132 => ?_) (fun c132 => ?_)
                                · have hw := hw.1 c132
                                  obtain ⟨z133, ez133⟩ : ∃ y : Int32, y = x3 + (4 : Int32) := ⟨_, rfl⟩
                                  have hw := hw z133 ez133
                                  refine v_iinc (v := z133) (lv2 := [(0, .ref b), (1, .ref a0.1), (2, .ref a1.1), (3, .int z133)]) (pc2 := 894) S 3 dL_law_891 rfl (by rw [ez133]; rfl) (by decide) [1, 2, 3, 0] rfl rfl ?_
                                  refine v_goto (tgt := 18) S dL_law_894 (by decide) ?_
                                  exact ih z133 w0 u131 hw
                                · have hw := hw.2 c132
                                  refine v_iconst (v := 0) (pc2 := 507) S dL_law_506 (by decide) rfl ?_
                                  exact hw.elim
                              · have hw := hw.2
                                by_cases c134 : z11 = (12 : Int32)
                                · have hw := hw.1 c134
                                  refine v_tableIn (off := 476) (tgt := 508) S dL_law_32 (by rw [c134]; decide) (by rw [c134]; decide) (by rw [c134]; rfl) (by decide) ?_
                                  refine v_aload_n (pc2 := 509) S 1 dL_law_508 rfl rfl rfl ?_
                                  refine v_callV (pc2 := 512) (As := []) (rest := []) S (c_X8_run l G a0 w0 _ hw) mf_X8_run u_541 u_542 u_543 0 8 rfl rfl rfl rfl ⟨rfl, rfl⟩ ⟨Nat.le_of_ble_eq_true rfl, Nat.le_of_ble_eq_true rfl⟩ ⟨Nat.le_of_ble_eq_true rfl, Nat.le_of_ble_eq_true rfl⟩ (Nat.le_of_ble_eq_true rfl) dL_law_509 (frM ([]) (wCD G a0 w0.1 w0.2.1 w0.2.2.1 w0.2.2.2.1 w0.2.2.2.2.1 w0.2.2.2.2.2.1 w0.2.2.2.2.2.2) (wMod G a1 w1.1 w1.2.1 w1.2.2.1 w1.2.2.2.1 w1.2.2.2.2.1 w1.2.2.2.2.2.1 w1.2.2.2.2.2.2.1 w1.2.2.2.2.2.2.2.1 w1.2.2.2.2.2.2.2.2.1 w1.2.2.2.2.2.2.2.2.2.1 w1.2.2.2.2.2.2.2.2.2.2.1 w1.2.2.2.2.2.2.2.2.2.2.2.1 w1.2.2.2.2.2.2.2.2.2.2.2.2.1 w1.2.2.2.2.2.2.2.2.2.2.2.2.2.1 w1.2.2.2.2.2.2.2.2.2.2.2.2.2.2.1 w1.2.2.2.2.2.2.2.2.2.2.2.2.2.2.2.1 w1.2.2.2.2.2.2.2.2.2.2.2.2.2.2.2.2)) rfl (pi (fun r135 u136 hw => ?_))
                                  refine v_to (wCD G a0 u136.1 u136.2.1 u136.2.2.1 u136.2.2.2.1 u136.2.2.2.2.1 u136.2.2.2.2.2.1 u136.2.2.2.2.2.2 ++ wMod G a1 w1.1 w1.2.1 w1.2.2.1 w1.2.2.2.1 w1.2.2.2.2.1 w1.2.2.2.2.2.1 w1.2.2.2.2.2.2.1 w1.2.2.2.2.2.2.2.1 w1.2.2.2.2.2.2.2.2.1 w1.2.2.2.2.2.2.2.2.2.1 w1.2.2.2.2.2.2.2.2.2.2.1 w1.2.2.2.2.2.2.2.2.2.2.2.1 w1.2.2.2.2.2.2.2.2.2.2.2.2.1 w1.2.2.2.2.2.2.2.2.2.2.2.2.2.1 w1.2.2.2.2.2.2.2.2.2.2.2.2.2.2.1 w1.2.2.2.2.2.2.2.2.2.2.2.2.2.2.2.1 w1.2.2.2.2.2.2.2.2.2.2.2.2.2.2.2.2) 512 [(0, .ref b), (1, .ref a0.1), (2, .ref a1.1), (3, .int x3)] _ [.int r135] rfl rfl rfl rfl ?_
                                  refine v_aload_n (pc2 := 513) S 2 dL_law_512 rfl rfl rfl ?_
                                  refine v_callV (pc2 := 516) (As := []) (rest := [.int r135]) S (c_X9_run l G a1 w1 _ hw) mf_X9_run u_1018 u_1019 u_1020 0 9 rfl rfl rfl rfl ⟨rfl, rfl⟩ ⟨Nat.le_of_ble_eq_true rfl, Nat.le_of_ble_eq_true rfl⟩ ⟨Nat.le_of_ble_eq_true rfl, Nat.le_of_ble_eq_true rfl⟩ (Nat.le_of_ble_eq_true rfl) dL_law_513 (frM (wCD G a0 u136.1 u136.2.1 u136.2.2.1 u136.2.2.2.1 u136.2.2.2.2.1 u136.2.2.2.2.2.1 u136.2.2.2.2.2.2) (wMod G a1 w1.1 w1.2.1 w1.2.2.1 w1.2.2.2.1 w1.2.2.2.2.1 w1.2.2.2.2.2.1 w1.2.2.2.2.2.2.1 w1.2.2.2.2.2.2.2.1 w1.2.2.2.2.2.2.2.2.1 w1.2.2.2.2.2.2.2.2.2.1 w1.2.2.2.2.2.2.2.2.2.2.1 w1.2.2.2.2.2.2.2.2.2.2.2.1 w1.2.2.2.2.2.2.2.2.2.2.2.2.1 w1.2.2.2.2.2.2.2.2.2.2.2.2.2.1 w1.2.2.2.2.2.2.2.2.2.2.2.2.2.2.1 w1.2.2.2.2.2.2.2.2.2.2.2.2.2.2.2.1 w1.2.2.2.2.2.2.2.2.2.2.2.2.2.2.2.2) ([])) rfl (pi (fun r137 u138 hw => ?_))
                                  refine v_to (wCD G a0 u136.1 u136.2.1 u136.2.2.1 u136.2.2.2.1 u136.2.2.2.2.1 u136.2.2.2.2.2.1 u136.2.2.2.2.2.2 ++ wMod G a1 u138.1 u138.2.1 u138.2.2.1 u138.2.2.2.1 u138.2.2.2.2.1 u138.2.2.2.2.2.1 u138.2.2.2.2.2.2.1 u138.2.2.2.2.2.2.2.1 u138.2.2.2.2.2.2.2.2.1 u138.2.2.2.2.2.2.2.2.2.1 u138.2.2.2.2.2.2.2.2.2.2.1 u138.2.2.2.2.2.2.2.2.2.2.2.1 u138.2.2.2.2.2.2.2.2.2.2.2.2.1 u138.2.2.2.2.2.2.2.2.2.2.2.2.2.1 u138.2.2.2.2.2.2.2.2.2.2.2.2.2.2.1 u138.2.2.2.2.2.2.2.2.2.2.2.2.2.2.2.1 u138.2.2.2.2.2.2.2.2.2.2.2.2.2.2.2.2) 516 [(0, .ref b), (1, .ref a0.1), (2, .ref a1.1), (3, .int x3)] _ [.int r137, .int r135] rfl rfl rfl rfl ?_
                                  refine v_icmp_eq (pc2 := 519) (tgt := 891) S dL_law_516 (by decide) rfl (fun c139 => ?_) (fun c139 => ?_)
                                  · have hw := hw.1 c139
                                    obtain ⟨z140, ez140⟩ : ∃ y : Int32, y = x3 + (4 : Int32) := ⟨_, rfl⟩
                                    have hw := hw z140 ez140
                                    refine v_iinc (v := z140) (lv2 := [(0, .ref b), (1, .ref a0.1), (2, .ref a1.1), (3, .int z140)]) (pc2 := 894) S 3 dL_law_891 rfl (by rw [ez140]; rfl) (by decide) [1, 2, 3, 0] rfl rfl ?_
                                    refine v_goto (tgt := 18) S dL_law_894 (by decide) ?_
                                    exact ih z140 u136 u138 hw
                                  · have hw := hw.2 c139
                                    refine v_iconst (v := 0) (pc2 := 520) S dL_law_519 (by decide) rfl ?_
                                    exact hw.elim
                                · have hw := hw.2
                                  by_cases c141 : z11 = (13 : Int32)
                                  · have hw := hw.1 c141
                                    refine v_tableIn (off := 489) (tgt := 521) S dL_law_32 (by rw [c141]; decide) (by rw [c141]; decide) (by rw [c141]; rfl) (by decide) ?_
                                    refine v_aload_n (pc2 := 522) S 1 dL_law_521 rfl rfl rfl ?_
                                    refine v_aload_n (pc2 := 523) S 0 dL_law_522 rfl rfl rfl ?_
                                    refine v_iload_n (pc2 := 524) S 3 dL_law_523 rfl rfl rfl ?_
                                    refine v_iconst (v := 1) (pc2 := 525) S dL_law_524 (by decide) rfl ?_
                                    refine v_iadd (pc2 := 526) S dL_law_525 rfl ?_
                                    obtain ⟨h142, hw⟩ := hw
                                    refine v_sld (pc2 := 527) S hX hbl h142 dL_law_526 rfl ?_
                                    refine v_callV (pc2 := 530) (As := [.int (xs (x3 + (1 : Int32)).toNatClampNeg)]) (rest := []) S (c_X8_why l G a0 w0 (xs (x3 + (1 : Int32)).toNatClampNeg) _ hw) mf_X8_why u_586 u_587 u_588 0 8 rfl rfl rfl rfl ⟨rfl, rfl⟩ ⟨Nat.le_of_ble_eq_true rfl, Nat.le_of_ble_eq_true rfl⟩ ⟨Nat.le_of_ble_eq_true rfl, Nat.le_of_ble_eq_true rfl⟩ (Nat.le_of_ble_eq_true rfl) dL_law_527 (frM ([]) (wCD G a0 w0.1 w0.2.1 w0.2.2.1 w0.2.2.2.1 w0.2.2.2.2.1 w0.2.2.2.2.2.1 w0.2.2.2.2.2.2) (wMod G a1 w1.1 w1.2.1 w1.2.2.1 w1.2.2.2.1 w1.2.2.2.2.1 w1.2.2.2.2.2.1 w1.2.2.2.2.2.2.1 w1.2.2.2.2.2.2.2.1 w1.2.2.2.2.2.2.2.2.1 w1.2.2.2.2.2.2.2.2.2.1 w1.2.2.2.2.2.2.2.2.2.2.1 w1.2.2.2.2.2.2.2.2.2.2.2.1 w1.2.2.2.2.2.2.2.2.2.2.2.2.1 w1.2.2.2.2.2.2.2.2.2.2.2.2.2.1 w1.2.2.2.2.2.2.2.2.2.2.2.2.2.2.1 w1.2.2.2.2.2.2.2.2.2.2.2.2.2.2.2.1 w1.2.2.2.2.2.2.2.2.2.2.2.2.2.2.2.2)) rfl (pi (fun r143 u144 hw => ?_))
                                    refine v_to (wCD G a0 w0.1 w0.2.1 w0.2.2.1 w0.2.2.2.1 w0.2.2.2.2.1 w0.2.2.2.2.2.1 w0.2.2.2.2.2.2 ++ wMod G a1 w1.1 w1.2.1 w1.2.2.1 w1.2.2.2.1 w1.2.2.2.2.1 w1.2.2.2.2.2.1 w1.2.2.2.2.2.2.1 w1.2.2.2.2.2.2.2.1 w1.2.2.2.2.2.2.2.2.1 w1.2.2.2.2.2.2.2.2.2.1 w1.2.2.2.2.2.2.2.2.2.2.1 w1.2.2.2.2.2.2.2.2.2.2.2.1 w1.2.2.2.2.2.2.2.2.2.2.2.2.1 w1.2.2.2.2.2.2.2.2.2.2.2.2.2.1 w1.2.2.2.2.2.2.2.2.2.2.2.2.2.2.1 w1.2.2.2.2.2.2.2.2.2.2.2.2.2.2.2.1 w1.2.2.2.2.2.2.2.2.2.2.2.2.2.2.2.2) 530 [(0, .ref b), (1, .ref a0.1), (2, .ref a1.1), (3, .int x3)] _ [.int r143] rfl rfl rfl rfl ?_
                                    refine v_aload_n (pc2 := 531) S 2 dL_law_530 rfl rfl rfl ?_
                                    refine v_aload_n (pc2 := 532) S 0 dL_law_531 rfl rfl rfl ?_
                                    refine v_iload_n (pc2 := 533) S 3 dL_law_532 rfl rfl rfl ?_
                                    refine v_iconst (v := 1) (pc2 := 534) S dL_law_533 (by decide) rfl ?_
                                    refine v_iadd (pc2 := 535) S dL_law_534 rfl ?_
                                    obtain ⟨h145, hw⟩ := hw
                                    refine v_sld (pc2 := 536) S hX hbl h145 dL_law_535 rfl ?_
                                    refine v_callV (pc2 := 539) (As := [.int (xs (x3 + (1 : Int32)).toNatClampNeg)]) (rest := [.int r143]) S (c_X9_why l G a1 w1 (xs (x3 + (1 : Int32)).toNatClampNeg) _ hw) mf_X9_why u_1026 u_1027 u_1028 0 9 rfl rfl rfl rfl ⟨rfl, rfl⟩ ⟨Nat.le_of_ble_eq_true rfl, Nat.le_of_ble_eq_true rfl⟩ ⟨Nat.le_of_ble_eq_true rfl, Nat.le_of_ble_eq_true rfl⟩ (Nat.le_of_ble_eq_true rfl) dL_law_536 (frM (wCD G a0 w0.1 w0.2.1 w0.2.2.1 w0.2.2.2.1 w0.2.2.2.2.1 w0.2.2.2.2.2.1 w0.2.2.2.2.2.2) (wMod G a1 w1.1 w1.2.1 w1.2.2.1 w1.2.2.2.1 w1.2.2.2.2.1 w1.2.2.2.2.2.1 w1.2.2.2.2.2.2.1 w1.2.2.2.2.2.2.2.1 w1.2.2.2.2.2.2.2.2.1 w1.2.2.2.2.2.2.2.2.2.1 w1.2.2.2.2.2.2.2.2.2.2.1 w1.2.2.2.2.2.2.2.2.2.2.2.1 w1.2.2.2.2.2.2.2.2.2.2.2.2.1 w1.2.2.2.2.2.2.2.2.2.2.2.2.2.1 w1.2.2.2.2.2.2.2.2.2.2.2.2.2.2.1 w1.2.2.2.2.2.2.2.2.2.2.2.2.2.2.2.1 w1.2.2.2.2.2.2.2.2.2.2.2.2.2.2.2.2) ([])) rfl (pi (fun r146 u147 hw => ?_))
                                    refine v_to (wCD G a0 w0.1 w0.2.1 w0.2.2.1 w0.2.2.2.1 w0.2.2.2.2.1 w0.2.2.2.2.2.1 w0.2.2.2.2.2.2 ++ wMod G a1 w1.1 w1.2.1 w1.2.2.1 w1.2.2.2.1 w1.2.2.2.2.1 w1.2.2.2.2.2.1 w1.2.2.2.2.2.2.1 w1.2.2.2.2.2.2.2.1 w1.2.2.2.2.2.2.2.2.1 w1.2.2.2.2.2.2.2.2.2.1 w1.2.2.2.2.2.2.2.2.2.2.1 w1.2.2.2.2.2.2.2.2.2.2.2.1 w1.2.2.2.2.2.2.2.2.2.2.2.2.1 w1.2.2.2.2.2.2.2.2.2.2.2.2.2.1 w1.2.2.2.2.2.2.2.2.2.2.2.2.2.2.1 w1.2.2.2.2.2.2.2.2.2.2.2.2.2.2.2.1 w1.2.2.2.2.2.2.2.2.2.2.2.2.2.2.2.2) 539 [(0, .ref b), (1, .ref a0.1), (2, .ref a1.1), (3, .int x3)] _ [.int r146, .int r143] rfl rfl rfl rfl ?_
                                    refine v_icmp_eq (pc2 := 542) (tgt := 891) S dL_law_539 (by decide) rfl (fun c148 => ?_) (fun c148 => ?_)
                                    · have hw := hw.1 c148
                                      obtain ⟨z149, ez149⟩ : ∃ y : Int32, y = x3 + (4 : Int32) := ⟨_, rfl⟩
                                      have hw := hw z149 ez149
                                      refine v_iinc (v := z149) (lv2 := [(0, .ref b), (1, .ref a0.1), (2, .ref a1.1), (3, .int z149)]) (pc2 := 894) S 3 dL_law_891 rfl (by rw [ez149]; rfl) (by decide) [1, 2, 3, 0] rfl rfl ?_
                                      refine v_goto (tgt := 18) S dL_law_894 (by decide) ?_
                                      exact ih z149 w0 w1 hw
                                    · have hw := hw.2 c148
                                      refine v_iconst (v := 0) (pc2 := 543) S dL_law_542 (by decide) rfl ?_
                                      exact hw.elim
                                  · have hw := hw.2
                                    by_cases c150 : z11 = (14 : Int32)
                                    · have hw := hw.1 c150
                                      refine v_tableIn (off := 512) (tgt := 544) S dL_law_32 (by rw [c150]; decide) (by rw [c150]; decide) (by rw [c150]; rfl) (by decide) ?_
                                      refine v_aload_n (pc2 := 545) S 1 dL_law_544 rfl rfl rfl ?_
                                      refine v_aload_n (pc2 := 546) S 0 dL_law_545 rfl rfl rfl ?_
                                      refine v_iload_n (pc2 := 547) S 3 dL_law_546 rfl rfl rfl ?_
                                      refine v_iconst (v := 1) (pc2 := 548) S dL_law_547 (by decide) rfl ?_
                                      refine v_iadd (pc2 := 549) S dL_law_548 rfl ?_
                                      obtain ⟨h151, hw⟩ := hw
                                      refine v_sld (pc2 := 550) S hX hbl h151 dL_law_549 rfl ?_
                                      refine v_aload_n (pc2 := 551) S 0 dL_law_550 rfl rfl rfl ?_
                                      refine v_iload_n (pc2 := 552) S 3 dL_law_551 rfl rfl rfl ?_
                                      refine v_iconst (v := 2) (pc2 := 553) S dL_law_552 (by decide) rfl ?_
                                      refine v_iadd (pc2 := 554) S dL_law_553 rfl ?_
                                      obtain ⟨h152, hw⟩ := hw
                                      refine v_sld (pc2 := 555) S hX hbl h152 dL_law_554 rfl ?_
                                      refine v_callV (pc2 := 558) (As := [.int (xs (x3 + (1 : Int32)).toNatClampNeg), .int (xs (x3 + (2 : Int32)).toNatClampNeg)]) (rest := []) S (c_X8_door l G a0 w0 (xs (x3 + (1 : Int32)).toNatClampNeg) (xs (x3 + (2 : Int32)).toNatClampNeg) _ hw) mf_X8_door u_590 u_591 u_592 0 8 rfl rfl rfl rfl ⟨rfl, rfl⟩ ⟨Nat.le_of_ble_eq_true rfl, Nat.le_of_ble_eq_true rfl⟩ ⟨Nat.le_of_ble_eq_true rfl, Nat.le_of_ble_eq_true rfl⟩ (Nat.le_of_ble_eq_true rfl) dL_law_555 (frM ([]) (wCD G a0 w0.1 w0.2.1 w0.2.2.1 w0.2.2.2.1 w0.2.2.2.2.1 w0.2.2.2.2.2.1 w0.2.2.2.2.2.2) (wMod G a1 w1.1 w1.2.1 w1.2.2.1 w1.2.2.2.1 w1.2.2.2.2.1 w1.2.2.2.2.2.1 w1.2.2.2.2.2.2.1 w1.2.2.2.2.2.2.2.1 w1.2.2.2.2.2.2.2.2.1 w1.2.2.2.2.2.2.2.2.2.1 w1.2.2.2.2.2.2.2.2.2.2.1 w1.2.2.2.2.2.2.2.2.2.2.2.1 w1.2.2.2.2.2.2.2.2.2.2.2.2.1 w1.2.2.2.2.2.2.2.2.2.2.2.2.2.1 w1.2.2.2.2.2.2.2.2.2.2.2.2.2.2.1 w1.2.2.2.2.2.2.2.2.2.2.2.2.2.2.2.1 w1.2.2.2.2.2.2.2.2.2.2.2.2.2.2.2.2)) rfl (pi (fun r153 u154 hw => ?_))
                                      refine v_to (wCD G a0 w0.1 w0.2.1 w0.2.2.1 w0.2.2.2.1 w0.2.2.2.2.1 w0.2.2.2.2.2.1 w0.2.2.2.2.2.2 ++ wMod G a1 w1.1 w1.2.1 w1.2.2.1 w1.2.2.2.1 w1.2.2.2.2.1 w1.2.2.2.2.2.1 w1.2.2.2.2.2.2.1 w1.2.2.2.2.2.2.2.1 w1.2.2.2.2.2.2.2.2.1 w1.2.2.2.2.2.2.2.2.2.1 w1.2.2.2.2.2.2.2.2.2.2.1 w1.2.2.2.2.2.2.2.2.2.2.2.1 w1.2.2.2.2.2.2.2.2.2.2.2.2.1 w1.2.2.2.2.2.2.2.2.2.2.2.2.2.1 w1.2.2.2.2.2.2.2.2.2.2.2.2.2.2.1 w1.2.2.2.2.2.2.2.2.2.2.2.2.2.2.2.1 w1.2.2.2.2.2.2.2.2.2.2.2.2.2.2.2.2) 558 [(0, .ref b), (1, .ref a0.1), (2, .ref a1.1), (3, .int x3)] _ [.int r153] rfl rfl rfl rfl ?_
                                      refine v_aload_n (pc2 := 559) S 2 dL_law_558 rfl rfl rfl ?_
                                      refine v_aload_n (pc2 := 560) S 0 dL_law_559 rfl rfl rfl ?_
                                      refine v_iload_n (pc2 := 561) S 3 dL_law_560 rfl rfl rfl ?_
                                      refine v_iconst (v := 1) (pc2 := 562) S dL_law_561 (by decide) rfl ?_
                                      refine v_iadd (pc2 := 563) S dL_law_562 rfl ?_
                                      obtain ⟨h155, hw⟩ := hw
                                      refine v_sld (pc2 := 564) S hX hbl h155 dL_law_563 rfl ?_
                                      refine v_aload_n (pc2 := 565) S 0 dL_law_564 rfl rfl rfl ?_
                                      refine v_iload_n (pc2 := 566) S 3 dL_law_565 rfl rfl rfl ?_
                                      refine v_iconst (v := 2) (pc2 := 567) S dL_law_566 (by decide) rfl ?_
                                      refine v_iadd (pc2 := 568) S dL_law_567 rfl ?_
                                      obtain ⟨h156, hw⟩ := hw
                                      refine v_sld (pc2 := 569) S hX hbl h156 dL_law_568 rfl ?_
                                      refine v_callV (pc2 := 572) (As := [.int (xs (x3 + (1 : Int32)).toNatClampNeg), .int (xs (x3 + (2 : Int32)).toNatClampNeg)]) (rest := [.int r153]) S (c_X9_door l G a1 w1 (xs (x3 + (1 : Int32)).toNatClampNeg) (xs (x3 + (2 : Int32)).toNatClampNeg) _ hw) mf_X9_door u_1030 u_1031 u_1032 0 9 rfl rfl rfl rfl ⟨rfl, rfl⟩ ⟨Nat.le_of_ble_eq_true rfl, Nat.le_of_ble_eq_true rfl⟩ ⟨Nat.le_of_ble_eq_true rfl, Nat.le_of_ble_eq_true rfl⟩ (Nat.le_of_ble_eq_true rfl) dL_law_569 (frM (wCD G a0 w0.1 w0.2.1 w0.2.2.1 w0.2.2.2.1 w0.2.2.2.2.1 w0.2.2.2.2.2.1 w0.2.2.2.2.2.2) (wMod G a1 w1.1 w1.2.1 w1.2.2.1 w1.2.2.2.1 w1.2.2.2.2.1 w1.2.2.2.2.2.1 w1.2.2.2.2.2.2.1 w1.2.2.2.2.2.2.2.1 w1.2.2.2.2.2.2.2.2.1 w1.2.2.2.2.2.2.2.2.2.1 w1.2.2.2.2.2.2.2.2.2.2.1 w1.2.2.2.2.2.2.2.2.2.2.2.1 w1.2.2.2.2.2.2.2.2.2.2.2.2.1 w1.2.2.2.2.2.2.2.2.2.2.2.2.2.1 w1.2.2.2.2.2.2.2.2.2.2.2.2.2.2.1 w1.2.2.2.2.2.2.2.2.2.2.2.2.2.2.2.1 w1.2.2.2.2.2.2.2.2.2.2.2.2.2.2.2.2) ([])) rfl (pi (fun r157 u158 hw => ?_))
                                      refine v_to (wCD G a0 w0.1 w0.2.1 w0.2.2.1 w0.2.2.2.1 w0.2.2.2.2.1 w0.2.2.2.2.2.1 w0.2.2.2.2.2.2 ++ wMod G a1 w1.1 w1.2.1 w1.2.2.1 w1.2.2.2.1 w1.2.2.2.2.1 w1.2.2.2.2.2.1 w1.2.2.2.2.2.2.1 w1.2.2.2.2.2.2.2.1 w1.2.2.2.2.2.2.2.2.1 w1.2.2.2.2.2.2.2.2.2.1 w1.2.2.2.2.2.2.2.2.2.2.1 w1.2.2.2.2.2.2.2.2.2.2.2.1 w1.2.2.2.2.2.2.2.2.2.2.2.2.1 w1.2.2.2.2.2.2.2.2.2.2.2.2.2.1 w1.2.2.2.2.2.2.2.2.2.2.2.2.2.2.1 w1.2.2.2.2.2.2.2.2.2.2.2.2.2.2.2.1 w1.2.2.2.2.2.2.2.2.2.2.2.2.2.2.2.2) 572 [(0, .ref b), (1, .ref a0.1), (2, .ref a1.1), (3, .int x3)] _ [.int r157, .int r153] rfl rfl rfl rfl ?_
                                      refine v_icmp_eq (pc2 := 575) (tgt := 891) S dL_law_572 (by decide) rfl (fun c159 => ?_) (fun c159 => ?_)
                                      · have hw := hw.1 c159
                                        obtain ⟨z160, ez160⟩ : ∃ y : Int32, y = x3 + (4 : Int32) := ⟨_, rfl⟩
                                        have hw := hw z160 ez160
                                        refine v_iinc (v := z160) (lv2 := [(0, .ref b), (1, .ref a0.1), (2, .ref a1.1), (3, .int z160)]) (pc2 := 894) S 3 dL_law_891 rfl (by rw [ez160]; rfl) (by decide) [1, 2, 3, 0] rfl rfl ?_
                                        refine v_goto (tgt := 18) S dL_law_894 (by decide) ?_
                                        exact ih z160 w0 w1 hw
                                      · have hw := hw.2 c159
                                        refine v_iconst (v := 0) (pc2 := 576) S dL_law_575 (by decide) rfl ?_
                                        exact hw.elim
                                    · have hw := hw.2
                                      by_cases c161 : z11 = (15 : Int32)
                                      · have hw := hw.1 c161
                                        refine v_tableIn (off := 545) (tgt := 577) S dL_law_32 (by rw [c161]; decide) (by rw [c161]; decide) (by rw [c161]; rfl) (by decide) ?_
                                        refine v_aload_n (pc2 := 578) S 1 dL_law_577 rfl rfl rfl ?_
                                        refine v_aload_n (pc2 := 579) S 0 dL_law_578 rfl rfl rfl ?_
                                        refine v_iload_n (pc2 := 580) S 3 dL_law_579 rfl rfl rfl ?_
                                        refine v_iconst (v := 1) (pc2 := 581) S dL_law_580 (by decide) rfl ?_
                                        refine v_iadd (pc2 := 582) S dL_law_581 rfl ?_
                                        obtain ⟨h162, hw⟩ := hw
                                        refine v_sld (pc2 := 583) S hX hbl h162 dL_law_582 rfl ?_
                                        refine v_aload_n (pc2 := 584) S 0 dL_law_583 rfl rfl rfl ?_
                                        refine v_iload_n (pc2 := 585) S 3 dL_law_584 rfl rfl rfl ?_
                                        refine v_iconst (v := 2) (pc2 := 586) S dL_law_585 (by decide) rfl ?_
                                        refine v_iadd (pc2 := 587) S dL_law_586 rfl ?_
                                        obtain ⟨h163, hw⟩ := hw
                                        refine v_sld (pc2 := 588) S hX hbl h163 dL_law_587 rfl ?_
                                        refine v_callV (pc2 := 591) (As := [.int (xs (x3 + (1 : Int32)).toNatClampNeg), .int (xs (x3 + (2 : Int32)).toNatClampNeg)]) (rest := []) S (c_X8_hall l G a0 w0 (xs (x3 + (1 : Int32)).toNatClampNeg) (xs (x3 + (2 : Int32)).toNatClampNeg) _ hw) mf_X8_hall u_603 u_604 u_605 0 8 rfl rfl rfl rfl ⟨rfl, rfl⟩ ⟨Nat.le_of_ble_eq_true rfl, Nat.le_of_ble_eq_true rfl⟩ ⟨Nat.le_of_ble_eq_true rfl, Nat.le_of_ble_eq_true rfl⟩ (Nat.le_of_ble_eq_true rfl) dL_law_588 (frM ([]) (wCD G a0 w0.1 w0.2.1 w0.2.2.1 w0.2.2.2.1 w0.2.2.2.2.1 w0.2.2.2.2.2.1 w0.2.2.2.2.2.2) (wMod G a1 w1.1 w1.2.1 w1.2.2.1 w1.2.2.2.1 w1.2.2.2.2.1 w1.2.2.2.2.2.1 w1.2.2.2.2.2.2.1 w1.2.2.2.2.2.2.2.1 w1.2.2.2.2.2.2.2.2.1 w1.2.2.2.2.2.2.2.2.2.1 w1.2.2.2.2.2.2.2.2.2.2.1 w1.2.2.2.2.2.2.2.2.2.2.2.1 w1.2.2.2.2.2.2.2.2.2.2.2.2.1 w1.2.2.2.2.2.2.2.2.2.2.2.2.2.1 w1.2.2.2.2.2.2.2.2.2.2.2.2.2.2.1 w1.2.2.2.2.2.2.2.2.2.2.2.2.2.2.2.1 w1.2.2.2.2.2.2.2.2.2.2.2.2.2.2.2.2)) rfl (pi (fun r164 u165 hw => ?_))
                                        refine v_to (wCD G a0 w0.1 w0.2.1 w0.2.2.1 w0.2.2.2.1 w0.2.2.2.2.1 w0.2.2.2.2.2.1 w0.2.2.2.2.2.2 ++ wMod G a1 w1.1 w1.2.1 w1.2.2.1 w1.2.2.2.1 w1.2.2.2.2.1 w1.2.2.2.2.2.1 w1.2.2.2.2.2.2.1 w1.2.2.2.2.2.2.2.1 w1.2.2.2.2.2.2.2.2.1 w1.2.2.2.2.2.2.2.2.2.1 w1.2.2.2.2.2.2.2.2.2.2.1 w1.2.2.2.2.2.2.2.2.2.2.2.1 w1.2.2.2.2.2.2.2.2.2.2.2.2.1 w1.2.2.2.2.2.2.2.2.2.2.2.2.2.1 w1.2.2.2.2.2.2.2.2.2.2.2.2.2.2.1 w1.2.2.2.2.2.2.2.2.2.2.2.2.2.2.2.1 w1.2.2.2.2.2.2.2.2.2.2.2.2.2.2.2.2) 591 [(0, .ref b), (1, .ref a0.1), (2, .ref a1.1), (3, .int x3)] _ [.int r164] rfl rfl rfl rfl ?_
                                        refine v_aload_n (pc2 := 592) S 2 dL_law_591 rfl rfl rfl ?_
                                        refine v_aload_n (pc2 := 593) S 0 dL_law_592 rfl rfl rfl ?_
                                        refine v_iload_n (pc2 := 594) S 3 dL_law_593 rfl rfl rfl ?_
                                        refine v_iconst (v := 1) (pc2 := 595) S dL_law_594 (by decide) rfl ?_
                                        refine v_iadd (pc2 := 596) S dL_law_595 rfl ?_
                                        obtain ⟨h166, hw⟩ := hw
                                        refine v_sld (pc2 := 597) S hX hbl h166 dL_law_596 rfl ?_
                                        refine v_aload_n (pc2 := 598) S 0 dL_law_597 rfl rfl rfl ?_
                                        refine v_iload_n (pc2 := 599) S 3 dL_law_598 rfl rfl rfl ?_
                                        refine v_iconst (v := 2) (pc2 := 600) S dL_law_599 (by decide) rfl ?_
                                        refine v_iadd (pc2 := 601) S dL_law_600 rfl ?_
                                        obtain ⟨h167, hw⟩ := hw
                                        refine v_sld (pc2 := 602) S hX hbl h167 dL_law_601 rfl ?_
                                        refine v_callV (pc2 := 605) (As := [.int (xs (x3 + (1 : Int32)).toNatClampNeg), .int (xs (x3 + (2 : Int32)).toNatClampNeg)]) (rest := [.int r164]) S (c_X9_hall l G a1 w1 (xs (x3 + (1 : Int32)).toNatClampNeg) (xs (x3 + (2 : Int32)).toNatClampNeg) _ hw) mf_X9_hall u_1034 u_1035 u_1036 0 9 rfl rfl rfl rfl ⟨rfl, rfl⟩ ⟨Nat.le_of_ble_eq_true rfl, Nat.le_of_ble_eq_true rfl⟩ ⟨Nat.le_of_ble_eq_true rfl, Nat.le_of_ble_eq_true rfl⟩ (Nat.le_of_ble_eq_true rfl) dL_law_602 (frM (wCD G a0 w0.1 w0.2.1 w0.2.2.1 w0.2.2.2.1 w0.2.2.2.2.1 w0.2.2.2.2.2.1 w0.2.2.2.2.2.2) (wMod G a1 w1.1 w1.2.1 w1.2.2.1 w1.2.2.2.1 w1.2.2.2.2.1 w1.2.2.2.2.2.1 w1.2.2.2.2.2.2.1 w1.2.2.2.2.2.2.2.1 w1.2.2.2.2.2.2.2.2.1 w1.2.2.2.2.2.2.2.2.2.1 w1.2.2.2.2.2.2.2.2.2.2.1 w1.2.2.2.2.2.2.2.2.2.2.2.1 w1.2.2.2.2.2.2.2.2.2.2.2.2.1 w1.2.2.2.2.2.2.2.2.2.2.2.2.2.1 w1.2.2.2.2.2.2.2.2.2.2.2.2.2.2.1 w1.2.2.2.2.2.2.2.2.2.2.2.2.2.2.2.1 w1.2.2.2.2.2.2.2.2.2.2.2.2.2.2.2.2) ([])) rfl (pi (fun r168 u169 hw => ?_))
                                        refine v_to (wCD G a0 w0.1 w0.2.1 w0.2.2.1 w0.2.2.2.1 w0.2.2.2.2.1 w0.2.2.2.2.2.1 w0.2.2.2.2.2.2 ++ wMod G a1 w1.1 w1.2.1 w1.2.2.1 w1.2.2.2.1 w1.2.2.2.2.1 w1.2.2.2.2.2.1 w1.2.2.2.2.2.2.1 w1.2.2.2.2.2.2.2.1 w1.2.2.2.2.2.2.2.2.1 w1.2.2.2.2.2.2.2.2.2.1 w1.2.2.2.2.2.2.2.2.2.2.1 w1.2.2.2.2.2.2.2.2.2.2.2.1 w1.2.2.2.2.2.2.2.2.2.2.2.2.1 w1.2.2.2.2.2.2.2.2.2.2.2.2.2.1 w1.2.2.2.2.2.2.2.2.2.2.2.2.2.2.1 w1.2.2.2.2.2.2.2.2.2.2.2.2.2.2.2.1 w1.2.2.2.2.2.2.2.2.2.2.2.2.2.2.2.2) 605 [(0, .ref b), (1, .ref a0.1), (2, .ref a1.1), (3, .int x3)] _ [.int r168, .int r164] rfl rfl rfl rfl ?_
                                        refine v_icmp_eq (pc2 := 608) (tgt := 891) S dL_law_605 (by decide) rfl (fun c170 => ?_) (fun c170 => ?_)
                                        · have hw := hw.1 c170
                                          obtain ⟨z171, ez171⟩ : ∃ y : Int32, y = x3 + (4 : Int32) := ⟨_, rfl⟩
                                          have hw := hw z171 ez171
                                          refine v_iinc (v := z171) (lv2 := [(0, .ref b), (1, .ref a0.1), (2, .ref a1.1), (3, .int z171)]) (pc2 := 894) S 3 dL_law_891 rfl (by rw [ez171]; rfl) (by decide) [1, 2, 3, 0] rfl rfl ?_
                                          refine v_goto (tgt := 18) S dL_law_894 (by decide) ?_
                                          exact ih z171 w0 w1 hw
                                        · have hw := hw.2 c170
                                          refine v_iconst (v := 0) (pc2 := 609) S dL_law_608 (by decide) rfl ?_
                                          exact hw.elim
                                      · have hw := hw.2
                                        by_cases c172 : z11 = (16 : Int32)
                                        · have hw := hw.1 c172
                                          refine v_tableIn (off := 578) (tgt := 610) S dL_law_32 (by rw [c172]; decide) (by rw [c172]; decide) (by rw [c172]; rfl) (by decide) ?_
                                          refine v_aload_n (pc2 := 611) S 1 dL_law_610 rfl rfl rfl ?_
                                          refine v_aload_n (pc2 := 612) S 0 dL_law_611 rfl rfl rfl ?_
                                          refine v_iload_n (pc2 := 613) S 3 dL_law_612 rfl rfl rfl ?_
                                          refine v_iconst (v := 1) (pc2 := 614) S dL_law_613 (by decide) rfl ?_
                                          refine v_iadd (pc2 := 615) S dL_law_614 rfl ?_
                                          obtain ⟨h173, hw⟩ := hw
                                          refine v_sld (pc2 := 616) S hX hbl h173 dL_law_615 rfl ?_
                                          refine v_aload_n (pc2 := 617) S 0 dL_law_616 rfl rfl rfl ?_
                                          refine v_iload_n (pc2 := 618) S 3 dL_law_617 rfl rfl rfl ?_
                                          refine v_iconst (v := 2) (pc2 := 619) S dL_law_618 (by decide) rfl ?_
                                          refine v_iadd (pc2 := 620) S dL_law_619 rfl ?_
                                          obtain ⟨h174, hw⟩ := hw
                                          refine v_sld (pc2 := 621) S hX hbl h174 dL_law_620 rfl ?_
                                          refine v_callV (pc2 := 624) (As := [.int (xs (x3 + (1 : Int32)).toNatClampNeg), .int (xs (x3 + (2 : Int32)).toNatClampNeg)]) (rest := []) S (c_X8_guest l G a0 w0 (xs (x3 + (1 : Int32)).toNatClampNeg) (xs (x3 + (2 : Int32)).toNatClampNeg) _ hw) mf_X8_guest u_620 u_621 u_622 0 8 rfl rfl rfl rfl ⟨rfl, rfl⟩ ⟨Nat.le_of_ble_eq_true rfl, Nat.le_of_ble_eq_true rfl⟩ ⟨Nat.le_of_ble_eq_true rfl, Nat.le_of_ble_eq_true rfl⟩ (Nat.le_of_ble_eq_true rfl) dL_law_621 (frM ([]) (wCD G a0 w0.1 w0.2.1 w0.2.2.1 w0.2.2.2.1 w0.2.2.2.2.1 w0.2.2.2.2.2.1 w0.2.2.2.2.2.2) (wMod G a1 w1.1 w1.2.1 w1.2.2.1 w1.2.2.2.1 w1.2.2.2.2.1 w1.2.2.2.2.2.1 w1.2.2.2.2.2.2.1 w1.2.2.2.2.2.2.2.1 w1.2.2.2.2.2.2.2.2.1 w1.2.2.2.2.2.2.2.2.2.1 w1.2.2.2.2.2.2.2.2.2.2.1 w1.2.2.2.2.2.2.2.2.2.2.2.1 w1.2.2.2.2.2.2.2.2.2.2.2.2.1 w1.2.2.2.2.2.2.2.2.2.2.2.2.2.1 w1.2.2.2.2.2.2.2.2.2.2.2.2.2.2.1 w1.2.2.2.2.2.2.2.2.2.2.2.2.2.2.2.1 w1.2.2.2.2.2.2.2.2.2.2.2.2.2.2.2.2)) rfl (pi (fun r175 u176 hw => ?_))
                                          refine v_to (wCD G a0 w0.1 w0.2.1 w0.2.2.1 w0.2.2.2.1 w0.2.2.2.2.1 w0.2.2.2.2.2.1 w0.2.2.2.2.2.2 ++ wMod G a1 w1.1 w1.2.1 w1.2.2.1 w1.2.2.2.1 w1.2.2.2.2.1 w1.2.2.2.2.2.1 w1.2.2.2.2.2.2.1 w1.2.2.2.2.2.2.2.1 w1.2.2.2.2.2.2.2.2.1 w1.2.2.2.2.2.2.2.2.2.1 w1.2.2.2.2.2.2.2.2.2.2.1 w1.2.2.2.2.2.2.2.2.2.2.2.1 w1.2.2.2.2.2.2.2.2.2.2.2.2.1 w1.2.2.2.2.2.2.2.2.2.2.2.2.2.1 w1.2.2.2.2.2.2.2.2.2.2.2.2.2.2.1 w1.2.2.2.2.2.2.2.2.2.2.2.2.2.2.2.1 w1.2.2.2.2.2.2.2.2.2.2.2.2.2.2.2.2) 624 [(0, .ref b), (1, .ref a0.1), (2, .ref a1.1), (3, .int x3)] _ [.int r175] rfl rfl rfl rfl ?_
                                          refine v_aload_n (pc2 := 625) S 2 dL_law_624 rfl rfl rfl ?_
                                          refine v_aload_n (pc2 := 626) S 0 dL_law_625 rfl rfl rfl ?_
                                          refine v_iload_n (pc2 := 627) S 3 dL_law_626 rfl rfl rfl ?_
                                          refine v_iconst (v := 1) (pc2 := 628) S dL_law_627 (by decide) rfl ?_
                                          refine v_iadd (pc2 := 629) S dL_law_628 rfl ?_
                                          obtain ⟨h177, hw⟩ := hw
                                          refine v_sld (pc2 := 630) S hX hbl h177 dL_law_629 rfl ?_
                                          refine v_aload_n (pc2 := 631) S 0 dL_law_630 rfl rfl rfl ?_
                                          refine v_iload_n (pc2 := 632) S 3 dL_law_631 rfl rfl rfl ?_
                                          refine v_iconst (v := 2) (pc2 := 633) S dL_law_632 (by decide) rfl ?_
                                          refine v_iadd (pc2 := 634) S dL_law_633 rfl ?_
                                          obtain ⟨h178, hw⟩ := hw
                                          refine v_sld (pc2 := 635) S hX hbl h178 dL_law_634 rfl ?_
                                          refine v_callV (pc2 := 638) (As := [.int (xs (x3 + (1 : Int32)).toNatClampNeg), .int (xs (x3 + (2 : Int32)).toNatClampNeg)]) (rest := [.int r175]) S (c_X9_guest l G a1 w1 (xs (x3 + (1 : Int32)).toNatClampNeg) (xs (x3 + (2 : Int32)).toNatClampNeg) _ hw) mf_X9_guest u_1053 u_1054 u_1055 0 9 rfl rfl rfl rfl ⟨rfl, rfl⟩ ⟨Nat.le_of_ble_eq_true rfl, Nat.le_of_ble_eq_true rfl⟩ ⟨Nat.le_of_ble_eq_true rfl, Nat.le_of_ble_eq_true rfl⟩ (Nat.le_of_ble_eq_true rfl) dL_law_635 (frM (wCD G a0 w0.1 w0.2.1 w0.2.2.1 w0.2.2.2.1 w0.2.2.2.2.1 w0.2.2.2.2.2.1 w0.2.2.2.2.2.2) (wMod G a1 w1.1 w1.2.1 w1.2.2.1 w1.2.2.2.1 w1.2.2.2.2.1 w1.2.2.2.2.2.1 w1.2.2.2.2.2.2.1 w1.2.2.2.2.2.2.2.1 w1.2.2.2.2.2.2.2.2.1 w1.2.2.2.2.2.2.2.2.2.1 w1.2.2.2.2.2.2.2.2.2.2.1 w1.2.2.2.2.2.2.2.2.2.2.2.1 w1.2.2.2.2.2.2.2.2.2.2.2.2.1 w1.2.2.2.2.2.2.2.2.2.2.2.2.2.1 w1.2.2.2.2.2.2.2.2.2.2.2.2.2.2.1 w1.2.2.2.2.2.2.2.2.2.2.2.2.2.2.2.1 w1.2.2.2.2.2.2.2.2.2.2.2.2.2.2.2.2) ([])) rfl (pi (fun r179 u180 hw => ?_))
                                          refine v_to (wCD G a0 w0.1 w0.2.1 w0.2.2.1 w0.2.2.2.1 w0.2.2.2.2.1 w0.2.2.2.2.2.1 w0.2.2.2.2.2.2 ++ wMod G a1 w1.1 w1.2.1 w1.2.2.1 w1.2.2.2.1 w1.2.2.2.2.1 w1.2.2.2.2.2.1 w1.2.2.2.2.2.2.1 w1.2.2.2.2.2.2.2.1 w1.2.2.2.2.2.2.2.2.1 w1.2.2.2.2.2.2.2.2.2.1 w1.2.2.2.2.2.2.2.2.2.2.1 w1.2.2.2.2.2.2.2.2.2.2.2.1 w1.2.2.2.2.2.2.2.2.2.2.2.2.1 w1.2.2.2.2.2.2.2.2.2.2.2.2.2.1 w1.2.2.2.2.2.2.2.2.2.2.2.2.2.2.1 w1.2.2.2.2.2.2.2.2.2.2.2.2.2.2.2.1 w1.2.2.2.2.2.2.2.2.2.2.2.2.2.2.2.2) 638 [(0, .ref b), (1, .ref a0.1), (2, .ref a1.1), (3, .int x3)] _ [.int r179, .int r175] rfl rfl rfl rfl ?_
                                          refine v_icmp_eq (pc2 := 641) (tgt := 891) S dL_law_638 (by decide) rfl (fun c181 => ?_) (fun c181 => ?_)
                                          · have hw := hw.1 c181
                                            obtain ⟨z182, ez182⟩ : ∃ y : Int32, y = x3 + (4 : Int32) := ⟨_, rfl⟩
                                            have hw := hw z182 ez182
                                            refine v_iinc (v := z182) (lv2 := [(0, .ref b), (1, .ref a0.1), (2, .ref a1.1), (3, .int z182)]) (pc2 := 894) S 3 dL_law_891 rfl (by rw [ez182]; rfl) (by decide) [1, 2, 3, 0] rfl rfl ?_
                                            refine v_goto (tgt := 18) S dL_law_894 (by decide) ?_
                                            exact ih z182 w0 w1 hw
                                          · have hw := hw.2 c181
                                            refine v_iconst (v := 0) (pc2 := 642) S dL_law_641 (by decide) rfl ?_
                                            exact hw.elim
                                        · have hw := hw.2
                                          by_cases c183 : z11 = (17 : Int32)
                                          · have hw := hw.1 c183
                                            refine v_tableIn (off := 611) (tgt := 643) S dL_law_32 (by rw [c183]; decide) (by rw [c183]; decide) (by rw [c183]; rfl) (by decide) ?_
                                            refine v_aload_n (pc2 := 644) S 1 dL_law_643 rfl rfl rfl ?_
                                            refine v_aload_n (pc2 := 645) S 0 dL_law_644 rfl rfl rfl ?_
                                            refine v_iload_n (pc2 := 646) S 3 dL_law_645 rfl rfl rfl ?_
                                            refine v_iconst (v := 1) (pc2 := 647) S dL_law_646 (by decide) rfl ?_
                                            refine v_iadd (pc2 := 648) S dL_law_647 rfl ?_
                                            obtain ⟨h184, hw⟩ := hw
                                            refine v_sld (pc2 := 649) S hX hbl h184 dL_law_648 rfl ?_
                                            refine v_callV (pc2 := 652) (As := [.int (xs (x3 + (1 : Int32)).toNatClampNeg)]) (rest := []) S (c_X8_whyNot l G a0 w0 (xs (x3 + (1 : Int32)).toNatClampNeg) _ hw) mf_X8_whyNot u_628 u_629 u_630 0 8 rfl rfl rfl rfl ⟨rfl, rfl⟩ ⟨Nat.le_of_ble_eq_true rfl, Nat.le_of_ble_eq_true rfl⟩ ⟨Nat.le_of_ble_eq_true rfl, Nat.le_of_ble_eq_true rfl⟩ (Nat.le_of_ble_eq_true rfl) dL_law_649 (frM ([]) (wCD G a0 w0.1 w0.2.1 w0.2.2.1 w0.2.2.2.1 w0.2.2.2.2.1 w0.2.2.2.2.2.1 w0.2.2.2.2.2.2) (wMod G a1 w1.1 w1.2.1 w1.2.2.1 w1.2.2.2.1 w1.2.2.2.2.1 w1.2.2.2.2.2.1 w1.2.2.2.2.2.2.1 w1.2.2.2.2.2.2.2.1 w1.2.2.2.2.2.2.2.2.1 w1.2.2.2.2.2.2.2.2.2.1 w1.2.2.2.2.2.2.2.2.2.2.1 w1.2.2.2.2.2.2.2.2.2.2.2.1 w1.2.2.2.2.2.2.2.2.2.2.2.2.1 w1.2.2.2.2.2.2.2.2.2.2.2.2.2.1 w1.2.2.2.2.2.2.2.2.2.2.2.2.2.2.1 w1.2.2.2.2.2.2.2.2.2.2.2.2.2.2.2.1 w1.2.2.2.2.2.2.2.2.2.2.2.2.2.2.2.2)) rfl (pi (fun r185 u186 hw => ?_))
                                            refine v_to (wCD G a0 w0.1 w0.2.1 w0.2.2.1 w0.2.2.2.1 w0.2.2.2.2.1 w0.2.2.2.2.2.1 w0.2.2.2.2.2.2 ++ wMod G a1 w1.1 w1.2.1 w1.2.2.1 w1.2.2.2.1 w1.2.2.2.2.1 w1.2.2.2.2.2.1 w1.2.2.2.2.2.2.1 w1.2.2.2.2.2.2.2.1 w1.2.2.2.2.2.2.2.2.1 w1.2.2.2.2.2.2.2.2.2.1 w1.2.2.2.2.2.2.2.2.2.2.1 w1.2.2.2.2.2.2.2.2.2.2.2.1 w1.2.2.2.2.2.2.2.2.2.2.2.2.1 w1.2.2.2.2.2.2.2.2.2.2.2.2.2.1 w1.2.2.2.2.2.2.2.2.2.2.2.2.2.2.1 w1.2.2.2.2.2.2.2.2.2.2.2.2.2.2.2.1 w1.2.2.2.2.2.2.2.2.2.2.2.2.2.2.2.2) 652 [(0, .ref b), (1, .ref a0.1), (2, .ref a1.1), (3, .int x3)] _ [.int r185] rfl rfl rfl rfl ?_
                                            refine v_aload_n (pc2 := 653) S 2 dL_law_652 rfl rfl rfl ?_
                                            refine v_aload_n (pc2 := 654) S 0 dL_law_653 rfl rfl rfl ?_
                                            refine v_iload_n (pc2 := 655) S 3 dL_law_654 rfl rfl rfl ?_
                                            refine v_iconst (v := 1) (pc2 := 656) S dL_law_655 (by decide) rfl ?_
                                            refine v_iadd (pc2 := 657) S dL_law_656 rfl ?_
                                            obtain ⟨h187, hw⟩ := hw
                                            refine v_sld (pc2 := 658) S hX hbl h187 dL_law_657 rfl ?_
                                            refine v_callV (pc2 := 661) (As := [.int (xs (x3 + (1 : Int32)).toNatClampNeg)]) (rest := [.int r185]) S (c_X9_whyNot l G a1 w1 (xs (x3 + (1 : Int32)).toNatClampNeg) _ hw) mf_X9_whyNot u_1061 u_1062 u_1063 0 9 rfl rfl rfl rfl ⟨rfl, rfl⟩ ⟨Nat.le_of_ble_eq_true rfl, Nat.le_of_ble_eq_true rfl⟩ ⟨Nat.le_of_ble_eq_true rfl, Nat.le_of_ble_eq_true rfl⟩ (Nat.le_of_ble_eq_true rfl) dL_law_658 (frM (wCD G a0 w0.1 w0.2.1 w0.2.2.1 w0.2.2.2.1 w0.2.2.2.2.1 w0.2.2.2.2.2.1 w0.2.2.2.2.2.2) (wMod G a1 w1.1 w1.2.1 w1.2.2.1 w1.2.2.2.1 w1.2.2.2.2.1 w1.2.2.2.2.2.1 w1.2.2.2.2.2.2.1 w1.2.2.2.2.2.2.2.1 w1.2.2.2.2.2.2.2.2.1 w1.2.2.2.2.2.2.2.2.2.1 w1.2.2.2.2.2.2.2.2.2.2.1 w1.2.2.2.2.2.2.2.2.2.2.2.1 w1.2.2.2.2.2.2.2.2.2.2.2.2.1 w1.2.2.2.2.2.2.2.2.2.2.2.2.2.1 w1.2.2.2.2.2.2.2.2.2.2.2.2.2.2.1 w1.2.2.2.2.2.2.2.2.2.2.2.2.2.2.2.1 w1.2.2.2.2.2.2.2.2.2.2.2.2.2.2.2.2) ([])) rfl (pi (fun r188 u189 hw => ?_))
                                            refine v_to (wCD G a0 w0.1 w0.2.1 w0.2.2.1 w0.2.2.2.1 w0.2.2.2.2.1 w0.2.2.2.2.2.1 w0.2.2.2.2.2.2 ++ wMod G a1 w1.1 w1.2.1 w1.2.2.1 w1.2.2.2.1 w1.2.2.2.2.1 w1.2.2.2.2.2.1 w1.2.2.2.2.2.2.1 w1.2.2.2.2.2.2.2.1 w1.2.2.2.2.2.2.2.2.1 w1.2.2.2.2.2.2.2.2.2.1 w1.2.2.2.2.2.2.2.2.2.2.1 w1.2.2.2.2.2.2.2.2.2.2.2.1 w1.2.2.2.2.2.2.2.2.2.2.2.2.1 w1.2.2.2.2.2.2.2.2.2.2.2.2.2.1 w1.2.2.2.2.2.2.2.2.2.2.2.2.2.2.1 w1.2.2.2.2.2.2.2.2.2.2.2.2.2.2.2.1 w1.2.2.2.2.2.2.2.2.2.2.2.2.2.2.2.2) 661 [(0, .ref b), (1, .ref a0.1), (2, .ref a1.1), (3, .int x3)] _ [.int r188, .int r185] rfl rfl rfl rfl ?_
                                            refine v_icmp_eq (pc2 := 664) (tgt := 891) S dL_law_661 (by decide) rfl (fun c190 => ?_) (fun c190 => ?_)
                                            · have hw := hw.1 c190
                                              obtain ⟨z191, ez191⟩ : ∃ y : Int32, y = x3 + (4 : Int32) := ⟨_, rfl⟩
                                              have hw := hw z191 ez191
                                              refine v_iinc (v := z191) (lv2 := [(0, .ref b), (1, .ref a0.1), (2, .ref a1.1), (3, .int z191)]) (pc2 := 894) S 3 dL_law_891 rfl (by rw [ez191]; rfl) (by decide) [1, 2, 3, 0] rfl rfl ?_
                                              refine v_goto (tgt := 18) S dL_law_894 (by decide) ?_
                                              exact ih z191 w0 w1 hw
                                            · have hw := hw.2 c190
                                              refine v_iconst (v := 0) (pc2 := 665) S dL_law_664 (by decide) rfl ?_
                                              exact hw.elim
                                          · have hw := hw.2
                                            by_cases c192 : z11 = (18 : Int32)
                                            · have hw := hw.1 c192
                                              refine v_tableIn (off := 634) (tgt := 666) S dL_law_32 (by rw [c192]; decide) (by rw [c192]; decide) (by rw [c192]; rfl) (by decide) ?_
                                              refine v_aload_n (pc2 := 667) S 1 dL_law_666 rfl rfl rfl ?_
                                              refine v_aload_n (pc2 := 668) S 0 dL_law_667 rfl rfl rfl ?_
                                              refine v_iload_n (pc2 := 669) S 3 dL_law_668 rfl rfl rfl ?_
                                              refine v_iconst (v := 1) (pc2 := 670) S dL_law_669 (by decide) rfl ?_
                                              refine v_iadd (pc2 := 671) S dL_law_670 rfl ?_
                                              obtain ⟨h193, hw⟩ := hw
                                              refine v_sld (pc2 := 672) S hX hbl h193 dL_law_671 rfl ?_
                                              refine v_callV (pc2 := 675) (As := [.int (xs (x3 + (1 : Int32)).toNatClampNeg)]) (rest := []) S (c_X8_together l G a0 w0 (xs (x3 + (1 : Int32)).toNatClampNeg) _ hw) mf_X8_together u_633 u_634 u_635 0 8 rfl rfl rfl rfl ⟨rfl, rfl⟩ ⟨Nat.le_of_ble_eq_true rfl, Nat.le_of_ble_eq_true rfl⟩ ⟨Nat.le_of_ble_eq_true rfl, Nat.le_of_ble_eq_true rfl⟩ (Nat.le_of_ble_eq_true rfl) dL_law_672 (frM ([]) (wCD G a0 w0.1 w0.2.1 w0.2.2.1 w0.2.2.2.1 w0.2.2.2.2.1 w0.2.2.2.2.2.1 w0.2.2.2.2.2.2) (wMod G a1 w1.1 w1.2.1 w1.2.2.1 w1.2.2.2.1 w1.2.2.2.2.1 w1.2.2.2.2.2.1 w1.2.2.2.2.2.2.1 w1.2.2.2.2.2.2.2.1 w1.2.2.2.2.2.2.2.2.1 w1.2.2.2.2.2.2.2.2.2.1 w1.2.2.2.2.2.2.2.2.2.2.1 w1.2.2.2.2.2.2.2.2.2.2.2.1 w1.2.2.2.2.2.2.2.2.2.2.2.2.1 w1.2.2.2.2.2.2.2.2.2.2.2.2.2.1 w1.2.2.2.2.2.2.2.2.2.2.2.2.2.2.1 w1.2.2.2.2.2.2.2.2.2.2.2.2.2.2.2.1 w1.2.2.2.2.2.2.2.2.2.2.2.2.2.2.2.2)) rfl (pi (fun r194 u195 hw => ?_))
                                              refine v_to (wCD G a0 w0.1 w0.2.1 w0.2.2.1 w0.2.2.2.1 w0.2.2.2.2.1 w0.2.2.2.2.2.1 w0.2.2.2.2.2.2 ++ wMod G a1 w1.1 w1.2.1 w1.2.2.1 w1.2.2.2.1 w1.2.2.2.2.1 w1.2.2.2.2.2.1 w1.2.2.2.2.2.2.1 w1.2.2.2.2.2.2.2.1 w1.2.2.2.2.2.2.2.2.1 w1.2.2.2.2.2.2.2.2.2.1 w1.2.2.2.2.2.2.2.2.2.2.1 w1.2.2.2.2.2.2.2.2.2.2.2.1 w1.2.2.2.2.2.2.2.2.2.2.2.2.1 w1.2.2.2.2.2.2.2.2.2.2.2.2.2.1 w1.2.2.2.2.2.2.2.2.2.2.2.2.2.2.1 w1.2.2.2.2.2.2.2.2.2.2.2.2.2.2.2.1 w1.2.2.2.2.2.2.2.2.2.2.2.2.2.2.2.2) 675 [(0, .ref b), (1, .ref a0.1), (2, .ref a1.1), (3, .int x3)] _ [.int r194] rfl rfl rfl rfl ?_
                                              refine v_aload_n (pc2 := 676) S 2 dL_law_675 rfl rfl rfl ?_
                                              refine v_aload_n (pc2 := 677) S 0 dL_law_676 rfl rfl rfl ?_
                                              refine v_iload_n (pc2 := 678) S 3 dL_law_677 rfl rfl rfl ?_
                                              refine v_iconst (v := 1) (pc2 := 679) S dL_law_678 (by decide) rfl ?_
                                              refine v_iadd (pc2 := 680) S dL_law_679 rfl ?_
                                              obtain ⟨h196, hw⟩ := hw
                                              refine v_sld (pc2 := 681) S hX hbl h196 dL_law_680 rfl ?_
                                              refine v_callV (pc2 := 684) (As := [.int (xs (x3 + (1 : Int32)).toNatClampNeg)]) (rest := [.int r194]) S (c_X9_together l G a1 w1 (xs (x3 + (1 : Int32)).toNatClampNeg) _ hw) mf_X9_together u_1073 u_1074 u_1075 0 9 rfl rfl rfl rfl ⟨rfl, rfl⟩ ⟨Nat.le_of_ble_eq_true rfl, Nat.le_of_ble_eq_true rfl⟩ ⟨Nat.le_of_ble_eq_true rfl, Nat.le_of_ble_eq_true rfl⟩ (Nat.le_of_ble_eq_true rfl) dL_law_681 (frM (wCD G a0 w0.1 w0.2.1 w0.2.2.1 w0.2.2.2.1 w0.2.2.2.2.1 w0.2.2.2.2.2.1 w0.2.2.2.2.2.2) (wMod G a1 w1.1 w1.2.1 w1.2.2.1 w1.2.2.2.1 w1.2.2.2.2.1 w1.2.2.2.2.2.1 w1.2.2.2.2.2.2.1 w1.2.2.2.2.2.2.2.1 w1.2.2.2.2.2.2.2.2.1 w1.2.2.2.2.2.2.2.2.2.1 w1.2.2.2.2.2.2.2.2.2.2.1 w1.2.2.2.2.2.2.2.2.2.2.2.1 w1.2.2.2.2.2.2.2.2.2.2.2.2.1 w1.2.2.2.2.2.2.2.2.2.2.2.2.2.1 w1.2.2.2.2.2.2.2.2.2.2.2.2.2.2.1 w1.2.2.2.2.2.2.2.2.2.2.2.2.2.2.2.1 w1.2.2.2.2.2.2.2.2.2.2.2.2.2.2.2.2) ([])) rfl (pi (fun r197 u198 hw => ?_))
                                              refine v_to (wCD G a0 w0.1 w0.2.1 w0.2.2.1 w0.2.2.2.1 w0.2.2.2.2.1 w0.2.2.2.2.2.1 w0.2.2.2.2.2.2 ++ wMod G a1 w1.1 w1.2.1 w1.2.2.1 w1.2.2.2.1 w1.2.2.2.2.1 w1.2.2.2.2.2.1 w1.2.2.2.2.2.2.1 w1.2.2.2.2.2.2.2.1 w1.2.2.2.2.2.2.2.2.1 w1.2.2.2.2.2.2.2.2.2.1 w1.2.2.2.2.2.2.2.2.2.2.1 w1.2.2.2.2.2.2.2.2.2.2.2.1 w1.2.2.2.2.2.2.2.2.2.2.2.2.1 w1.2.2.2.2.2.2.2.2.2.2.2.2.2.1 w1.2.2.2.2.2.2.2.2.2.2.2.2.2.2.1 w1.2.2.2.2.2.2.2.2.2.2.2.2.2.2.2.1 w1.2.2.2.2.2.2.2.2.2.2.2.2.2.2.2.2) 684 [(0, .ref b), (1, .ref a0.1), (2, .ref a1.1), (3, .int x3)] _ [.int r197, .int r194] rfl rfl rfl rfl ?_
                                              refine v_icmp_eq (pc2 := 687) (tgt := 891) S dL_law_684 (by decide) rfl (fun c199 => ?_) (fun c199 => ?_)
                                              · have hw := hw.1 c199
                                                obtain ⟨z200, ez200⟩ : ∃ y : Int32, y = x3 + (4 : Int32) := ⟨_, rfl⟩
                                                have hw := hw z200 ez200
                                                refine v_iinc (v := z200) (lv2 := [(0, .ref b), (1, .ref a0.1), (2, .ref a1.1), (3, .int z200)]) (pc2 := 894) S 3 dL_law_891 rfl (by rw [ez200]; rfl) (by decide) [1, 2, 3, 0] rfl rfl ?_
                                                refine v_goto (tgt := 18) S dL_law_894 (by decide) ?_
                                                exact ih z200 w0 w1 hw
                                              · have hw := hw.2 c199
                                                refine v_iconst (v := 0) (pc2 := 688) S dL_law_687 (by decide) rfl ?_
                                                exact hw.elim
                                            · have hw := hw.2
                                              by_cases c201 : z11 = (19 : Int32)
                                              · have hw := hw.1 c201
                                                refine v_tableIn (off := 657) (tgt := 689) S dL_law_32 (by rw [c201]; decide) (by rw [c201]; decide) (by rw [c201]; rfl) (by decide) ?_
                                                refine v_aload_n (pc2 := 690) S 1 dL_law_689 rfl rfl rfl ?_
                                                refine v_aload_n (pc2 := 691) S 0 dL_law_690 rfl rfl rfl ?_
                                                refine v_iload_n (pc2 := 692) S 3 dL_law_691 rfl rfl rfl ?_
                                                refine v_iconst (v := 1) (pc2 := 693) S dL_law_692 (by decide) rfl ?_
                                                refine v_iadd (pc2 := 694) S dL_law_693 rfl ?_
                                                obtain ⟨h202, hw⟩ := hw
                                                refine v_sld (pc2 := 695) S hX hbl h202 dL_law_694 rfl ?_
                                                refine v_callV (pc2 := 698) (As := [.int (xs (x3 + (1 : Int32)).toNatClampNeg)]) (rest := []) S (c_X8_can l G a0 w0 (xs (x3 + (1 : Int32)).toNatClampNeg) _ hw) mf_X8_can u_650 u_651 u_652 0 8 rfl rfl rfl rfl ⟨rfl, rfl⟩ ⟨Nat.le_of_ble_eq_true rfl, Nat.le_of_ble_eq_true rfl⟩ ⟨Nat.le_of_ble_eq_true rfl, Nat.le_of_ble_eq_true rfl⟩ (Nat.le_of_ble_eq_true rfl) dL_law_695 (frM ([]) (wCD G a0 w0.1 w0.2.1 w0.2.2.1 w0.2.2.2.1 w0.2.2.2.2.1 w0.2.2.2.2.2.1 w0.2.2.2.2.2.2) (wMod G a1 w1.1 w1.2.1 w1.2.2.1 w1.2.2.2.1 w1.2.2.2.2.1 w1.2.2.2.2.2.1 w1.2.2.2.2.2.2.1 w1.2.2.2.2.2.2.2.1 w1.2.2.2.2.2.2.2.2.1 w1.2.2.2.2.2.2.2.2.2.1 w1.2.2.2.2.2.2.2.2.2.2.1 w1.2.2.2.2.2.2.2.2.2.2.2.1 w1.2.2.2.2.2.2.2.2.2.2.2.2.1 w1.2.2.2.2.2.2.2.2.2.2.2.2.2.1 w1.2.2.2.2.2.2.2.2.2.2.2.2.2.2.1 w1.2.2.2.2.2.2.2.2.2.2.2.2.2.2.2.1 w1.2.2.2.2.2.2.2.2.2.2.2.2.2.2.2.2)) rfl (pi (fun r203 u204 hw => ?_))
                                                refine v_to (wCD G a0 w0.1 w0.2.1 w0.2.2.1 w0.2.2.2.1 w0.2.2.2.2.1 w0.2.2.2.2.2.1 w0.2.2.2.2.2.2 ++ wMod G a1 w1.1 w1.2.1 w1.2.2.1 w1.2.2.2.1 w1.2.2.2.2.1 w1.2.2.2.2.2.1 w1.2.2.2.2.2.2.1 w1.2.2.2.2.2.2.2.1 w1.2.2.2.2.2.2.2.2.1 w1.2.2.2.2.2.2.2.2.2.1 w1.2.2.2.2.2.2.2.2.2.2.1 w1.2.2.2.2.2.2.2.2.2.2.2.1 w1.2.2.2.2.2.2.2.2.2.2.2.2.1 w1.2.2.2.2.2.2.2.2.2.2.2.2.2.1 w1.2.2.2.2.2.2.2.2.2.2.2.2.2.2.1 w1.2.2.2.2.2.2.2.2.2.2.2.2.2.2.2.1 w1.2.2.2.2.2.2.2.2.2.2.2.2.2.2.2.2) 698 [(0, .ref b), (1, .ref a0.1), (2, .ref a1.1), (3, .int x3)] _ [.int r203] rfl rfl rfl rfl ?_
                                                refine v_aload_n (pc2 := 699) S 2 dL_law_698 rfl rfl rfl ?_
                                                refine v_aload_n (pc2 := 700) S 0 dL_law_699 rfl rfl rfl ?_
                                                refine v_iload_n (pc2 := 701) S 3 dL_law_700 rfl rfl rfl ?_
                                                refine v_iconst (v := 1) (pc2 := 702) S dL_law_701 (by decide) rfl ?_
                                                refine v_iadd (pc2 := 703) S dL_law_702 rfl ?_
                                                obtain ⟨h205, hw⟩ := hw
                                                refine v_sld (pc2 := 704) S hX hbl h205 dL_law_703 rfl ?_
                                                refine v_callV (pc2 := 707) (As := [.int (xs (x3 + (1 : Int32)).toNatClampNeg)]) (rest := [.int r203]) S (c_X9_can l G a1 w1 (xs (x3 + (1 : Int32)).toNatClampNeg) _ hw) mf_X9_can u_1065 u_1066 u_1067 0 9 rfl rfl rfl rfl ⟨rfl, rfl⟩ ⟨Nat.le_of_ble_eq_true rfl, Nat.le_of_ble_eq_true rfl⟩ ⟨Nat.le_of_ble_eq_true rfl, Nat.le_of_ble_eq_true rfl⟩ (Nat.le_of_ble_eq_true rfl) dL_law_704 (frM (wCD G a0 w0.1 w0.2.1 w0.2.2.1 w0.2.2.2.1 w0.2.2.2.2.1 w0.2.2.2.2.2.1 w0.2.2.2.2.2.2) (wMod G a1 w1.1 w1.2.1 w1.2.2.1 w1.2.2.2.1 w1.2.2.2.2.1 w1.2.2.2.2.2.1 w1.2.2.2.2.2.2.1 w1.2.2.2.2.2.2.2.1 w1.2.2.2.2.2.2.2.2.1 w1.2.2.2.2.2.2.2.2.2.1 w1.2.2.2.2.2.2.2.2.2.2.1 w1.2.2.2.2.2.2.2.2.2.2.2.1 w1.2.2.2.2.2.2.2.2.2.2.2.2.1 w1.2.2.2.2.2.2.2.2.2.2.2.2.2.1 w1.2.2.2.2.2.2.2.2.2.2.2.2.2.2.1 w1.2.2.2.2.2.2.2.2.2.2.2.2.2.2.2.1 w1.2.2.2.2.2.2.2.2.2.2.2.2.2.2.2.2) ([])) rfl (pi (fun r206 u207 hw => ?_))
                                                refine v_to (wCD G a0 w0.1 w0.2.1 w0.2.2.1 w0.2.2.2.1 w0.2.2.2.2.1 w0.2.2.2.2.2.1 w0.2.2.2.2.2.2 ++ wMod G a1 w1.1 w1.2.1 w1.2.2.1 w1.2.2.2.1 w1.2.2.2.2.1 w1.2.2.2.2.2.1 w1.2.2.2.2.2.2.1 w1.2.2.2.2.2.2.2.1 w1.2.2.2.2.2.2.2.2.1 w1.2.2.2.2.2.2.2.2.2.1 w1.2.2.2.2.2.2.2.2.2.2.1 w1.2.2.2.2.2.2.2.2.2.2.2.1 w1.2.2.2.2.2.2.2.2.2.2.2.2.1 w1.2.2.2.2.2.2.2.2.2.2.2.2.2.1 w1.2.2.2.2.2.2.2.2.2.2.2.2.2.2.1 w1.2.2.2.2.2.2.2.2.2.2.2.2.2.2.2.1 w1.2.2.2.2.2.2.2.2.2.2.2.2.2.2.2.2) 707 [(0, .ref b), (1, .ref a0.1), (2, .ref a1.1), (3, .int x3)] _ [.int r206, .int r203] rfl rfl rfl rfl ?_
                                                refine v_icmp_eq (pc2 := 710) (tgt := 891) S dL_law_707 (by decide) rfl (fun c208 => ?_) (fun c208 => ?_)
                                                · have hw := hw.1 c208
                                                  obtain ⟨z209, ez209⟩ : ∃ y : Int32, y = x3 + (4 : Int32) := ⟨_, rfl⟩
                                                  have hw := hw z209 ez209
                                                  refine v_iinc (v := z209) (lv2 := [(0, .ref b), (1, .ref a0.1), (2, .ref a1.1), (3, .int z209)]) (pc2 := 894) S 3 dL_law_891 rfl (by rw [ez209]; rfl) (by decide) [1, 2, 3, 0] rfl rfl ?_
                                                  refine v_goto (tgt := 18) S dL_law_894 (by decide) ?_
                                                  exact ih z209 w0 w1 hw
                                                · have hw := hw.2 c208
                                                  refine v_iconst (v := 0) (pc2 := 711) S dL_law_710 (by decide) rfl ?_
                                                  exact hw.elim
                                              · have hw := hw.2
                                                by_cases c210 : z11 = (20 : Int32)
                                                · have hw := hw.1 c210
                                                  refine v_tableIn (off := 680) (tgt := 712) S dL_law_32 (by rw [c210]; decide) (by rw [c210]; decide) (by rw [c210]; rfl) (by decide) ?_
                                                  refine v_aload_n (pc2 := 713) S 1 dL_law_712 rfl rfl rfl ?_
                                                  refine v_aload_n (pc2 := 714) S 0 dL_law_713 rfl rfl rfl ?_
                                                  refine v_iload_n (pc2 := 715) S 3 dL_law_714 rfl rfl rfl ?_
                                                  refine v_iconst (v := 1) (pc2 := 716) S dL_law_715 (by decide) rfl ?_
                                                  refine v_iadd (pc2 := 717) S dL_law_716 rfl ?_
                                                  obtain ⟨h211, hw⟩ := hw
                                                  refine v_sld (pc2 := 718) S hX hbl h211 dL_law_717 rfl ?_
                                                  refine v_aload_n (pc2 := 719) S 0 dL_law_718 rfl rfl rfl ?_
                                                  refine v_iload_n (pc2 := 720) S 3 dL_law_719 rfl rfl rfl ?_
                                                  refine v_iconst (v := 2) (pc2 := 721) S dL_law_720 (by decide) rfl ?_
                                                  refine v_iadd (pc2 := 722) S dL_law_721 rfl ?_
                                                  obtain ⟨h212, hw⟩ := hw
                                                  refine v_sld (pc2 := 723) S hX hbl h212 dL_law_722 rfl ?_
                                                  refine v_aload_n (pc2 := 724) S 0 dL_law_723 rfl rfl rfl ?_
                                                  refine v_iload_n (pc2 := 725) S 3 dL_law_724 rfl rfl rfl ?_
                                                  refine v_iconst (v := 3) (pc2 := 726) S dL_law_725 (by decide) rfl ?_
                                                  refine v_iadd (pc2 := 727) S dL_law_726 rfl ?_
                                                  obtain ⟨h213, hw⟩ := hw
                                                  refine v_sld (pc2 := 728) S hX hbl h213 dL_law_727 rfl ?_
                                                  refine v_callV (pc2 := 731) (As := [.int (xs (x3 + (1 : Int32)).toNatClampNeg), .int (xs (x3 + (2 : Int32)).toNatClampNeg), .int (xs (x3 + (3 : Int32)).toNatClampNeg)]) (rest := []) S (c_X8_deeds l G a0 w0 (xs (x3 + (1 : Int32)).toNatClampNeg) (xs (x3 + (2 : Int32)).toNatClampNeg) (xs (x3 + (3 : Int32)).toNatClampNeg) _ hw) mf_X8_deeds u_654 u_655 u_656 0 8 rfl rfl rfl rfl ⟨rfl, rfl⟩ ⟨Nat.le_of_ble_eq_true rfl, Nat.le_of_ble_eq_true rfl⟩ ⟨Nat.le_of_ble_eq_true rfl, Nat.le_of_ble_eq_true rfl⟩ (Nat.le_of_ble_eq_true rfl) dL_law_728 (frM ([]) (wCD G a0 w0.1 w0.2.1 w0.2.2.1 w0.2.2.2.1 w0.2.2.2.2.1 w0.2.2.2.2.2.1 w0.2.2.2.2.2.2) (wMod G a1 w1.1 w1.2.1 w1.2.2.1 w1.2.2.2.1 w1.2.2.2.2.1 w1.2.2.2.2.2.1 w1.2.2.2.2.2.2.1 w1.2.2.2.2.2.2.2.1 w1.2.2.2.2.2.2.2.2.1 w1.2.2.2.2.2.2.2.2.2.1 w1.2.2.2.2.2.2.2.2.2.2.1 w1.2.2.2.2.2.2.2.2.2.2.2.1 w1.2.2.2.2.2.2.2.2.2.2.2.2.1 w1.2.2.2.2.2.2.2.2.2.2.2.2.2.1 w1.2.2.2.2.2.2.2.2.2.2.2.2.2.2.1 w1.2.2.2.2.2.2.2.2.2.2.2.2.2.2.2.1 w1.2.2.2.2.2.2.2.2.2.2.2.2.2.2.2.2)) rfl (pi (fun r214 u215 hw => ?_))
                                                  refine v_to (wCD G a0 u215.1 u215.2.1 u215.2.2.1 u215.2.2.2.1 u215.2.2.2.2.1 u215.2.2.2.2.2.1 u215.2.2.2.2.2.2 ++ wMod G a1 w1.1 w1.2.1 w1.2.2.1 w1.2.2.2.1 w1.2.2.2.2.1 w1.2.2.2.2.2.1 w1.2.2.2.2.2.2.1 w1.2.2.2.2.2.2.2.1 w1.2.2.2.2.2.2.2.2.1 w1.2.2.2.2.2.2.2.2.2.1 w1.2.2.2.2.2.2.2.2.2.2.1 w1.2.2.2.2.2.2.2.2.2.2.2.1 w1.2.2.2.2.2.2.2.2.2.2.2.2.1 w1.2.2.2.2.2.2.2.2.2.2.2.2.2.1 w1.2.2.2.2.2.2.2.2.2.2.2.2.2.2.1 w1.2.2.2.2.2.2.2.2.2.2.2.2.2.2.2.1 w1.2.2.2.2.2.2.2.2.2.2.2.2.2.2.2.2) 731 [(0, .ref b), (1, .ref a0.1), (2, .ref a1.1), (3, .int x3)] _ [.int r214] rfl rfl rfl rfl ?_
                                                  refine v_aload_n (pc2 := 732) S 2 dL_law_731 rfl rfl rfl ?_
                                                  refine v_aload_n (pc2 := 733) S 0 dL_law_732 rfl rfl rfl ?_
                                                  refine v_iload_n (pc2 := 734) S 3 dL_law_733 rfl rfl rfl ?_
                                                  refine v_iconst (v := 1) (pc2 := 735) S dL_law_734 (by decide) rfl ?_
                                                  refine v_iadd (pc2 := 736) S dL_law_735 rfl ?_
                                                  obtain ⟨h216, hw⟩ := hw
                                                  refine v_sld (pc2 := 737) S hX hbl h216 dL_law_736 rfl ?_
                                                  refine v_aload_n (pc2 := 738) S 0 dL_law_737 rfl rfl rfl ?_
                                                  refine v_iload_n (pc2 := 739) S 3 dL_law_738 rfl rfl rfl ?_
                                                  refine v_iconst (v := 2) (pc2 := 740) S dL_law_739 (by decide) rfl ?_
                                                  refine v_iadd (pc2 := 741) S dL_law_740 rfl ?_
                                                  obtain ⟨h217, hw⟩ := hw
                                                  refine v_sld (pc2 := 742) S hX hbl h217 dL_law_741 rfl ?_
                                                  refine v_aload_n (pc2 := 743) S 0 dL_law_742 rfl rfl rfl ?_
                                                  refine v_iload_n (pc2 := 744) S 3 dL_law_743 rfl rfl rfl ?_
                                                  refine v_iconst (v := 3) (pc2 := 745) S dL_law_744 (by decide) rfl ?_
                                                  refine v_iadd (pc2 := 746) S dL_law_745 rfl ?_
                                                  obtain ⟨h218, hw⟩ := hw
                                                  refine v_sld (pc2 := 747) S hX hbl h218 dL_law_746 rfl ?_
                                                  refine v_callV (pc2 := 750) (As := [.int (xs (x3 + (1 : Int32)).toNatClampNeg), .int (xs (x3 + (2 : Int32)).toNatClampNeg), .int (xs (x3 + (3 : Int32)).toNatClampNeg)]) (rest := [.int r214]) S (c_X9_deeds l G a1 w1 (xs (x3 + (1 : Int32)).toNatClampNeg) (xs (x3 + (2 : Int32)).toNatClampNeg) (xs (x3 + (3 : Int32)).toNatClampNeg) _ hw) mf_X9_deeds u_1077 u_1078 u_1079 0 9 rfl rfl rfl rfl ⟨rfl, rfl⟩ ⟨Nat.le_of_ble_eq_true rfl, Nat.le_of_ble_eq_true rfl⟩ ⟨Nat.le_of_ble_eq_true rfl, Nat.le_of_ble_eq_true rfl⟩ (Nat.le_of_ble_eq_true rfl) dL_law_747 (frM (wCD G a0 u215.1 u215.2.1 u215.2.2.1 u215.2.2.2.1 u215.2.2.2.2.1 u215.2.2.2.2.2.1 u215.2.2.2.2.2.2) (wMod G a1 w1.1 w1.2.1 w1.2.2.1 w1.2.2.2.1 w1.2.2.2.2.1 w1.2.2.2.2.2.1 w1.2.2.2.2.2.2.1 w1.2.2.2.2.2.2.2.1 w1.2.2.2.2.2.2.2.2.1 w1.2.2.2.2.2.2.2.2.2.1 w1.2.2.2.2.2.2.2.2.2.2.1 w1.2.2.2.2.2.2.2.2.2.2.2.1 w1.2.2.2.2.2.2.2.2.2.2.2.2.1 w1.2.2.2.2.2.2.2.2.2.2.2.2.2.1 w1.2.2.2.2.2.2.2.2.2.2.2.2.2.2.1 w1.2.2.2.2.2.2.2.2.2.2.2.2.2.2.2.1 w1.2.2.2.2.2.2.2.2.2.2.2.2.2.2.2.2) ([])) rfl (pi (fun r219 u220 hw => ?_))
                                                  refine v_to (wCD G a0 u215.1 u215.2.1 u215.2.2.1 u215.2.2.2.1 u215.2.2.2.2.1 u215.2.2.2.2.2.1 u215.2.2.2.2.2.2 ++ wMod G a1 u220.1 u220.2.1 u220.2.2.1 u220.2.2.2.1 u220.2.2.2.2.1 u220.2.2.2.2.2.1 u220.2.2.2.2.2.2.1 u220.2.2.2.2.2.2.2.1 u220.2.2.2.2.2.2.2.2.1 u220.2.2.2.2.2.2.2.2.2.1 u220.2.2.2.2.2.2.2.2.2.2.1 u220.2.2.2.2.2.2.2.2.2.2.2.1 u220.2.2.2.2.2.2.2.2.2.2.2.2.1 u220.2.2.2.2.2.2.2.2.2.2.2.2.2.1 u220.2.2.2.2.2.2.2.2.2.2.2.2.2.2.1 u220.2.2.2.2.2.2.2.2.2.2.2.2.2.2.2.1 u220.2.2.2.2.2.2.2.2.2.2.2.2.2.2.2.2) 750 [(0, .ref b), (1, .ref a0.1), (2, .ref a1.1), (3, .int x3)] _ [.int r219, .int r214] rfl rfl rfl rfl ?_
                                                  refine v_icmp_eq (pc2 := 753) (tgt := 891) S dL_law_750 (by decide) rfl (fun c221 => ?_) (fun c221 => ?_)
                                                  · have hw := hw.1 c221
                                                    obtain ⟨z222, ez222⟩ : ∃ y : Int32, y = x3 + (4 : Int32) := ⟨_, rfl⟩
                                                    have hw := hw z222 ez222
                                                    refine v_iinc (v := z222) (lv2 := [(0, .ref b), (1, .ref a0.1), (2, .ref a1.1), (3, .int z222)]) (pc2 := 894) S 3 dL_law_891 rfl (by rw [ez222]; rfl) (by decide) [1, 2, 3, 0] rfl rfl ?_
                                                    refine v_goto (tgt := 18) S dL_law_894 (by decide) ?_
                                                    exact ih z222 u215 u220 hw
                                                  · have hw := hw.2 c221
                                                    refine v_iconst (v := 0) (pc2 := 754) S dL_law_753 (by decide) rfl ?_
                                                    exact hw.elim
                                                · have hw := hw.2
                                                  by_cases c223 : z11 = (21 : Int32)
                                                  · have hw := hw.1 c223
                                                    refine v_tableIn (off := 723) (tgt := 755) S dL_law_32 (by rw [c223]; decide) (by rw [c223]; decide) (by rw [c223]; rfl) (by decide) ?_
                                                    refine v_aload_n (pc2 := 756) S 1 dL_law_755 rfl rfl rfl ?_
                                                    refine v_aload_n (pc2 := 757) S 0 dL_law_756 rfl rfl rfl ?_
                                                    refine v_iload_n (pc2 := 758) S 3 dL_law_757 rfl rfl rfl ?_
                                                    refine v_iconst (v := 1) (pc2 := 759) S dL_law_758 (by decide) rfl ?_
                                                    refine v_iadd (pc2 := 760) S dL_law_759 rfl ?_
                                                    obtain ⟨h224, hw⟩ := hw
                                                    refine v_sld (pc2 := 761) S hX hbl h224 dL_law_760 rfl ?_
                                                    refine v_callV (pc2 := 764) (As := [.int (xs (x3 + (1 : Int32)).toNatClampNeg)]) (rest := []) S (c_X8_count l G a0 w0 (xs (x3 + (1 : Int32)).toNatClampNeg) _ hw) mf_X8_count u_717 u_718 u_719 0 8 rfl rfl rfl rfl ⟨rfl, rfl⟩ ⟨Nat.le_of_ble_eq_true rfl, Nat.le_of_ble_eq_true rfl⟩ ⟨Nat.le_of_ble_eq_true rfl, Nat.le_of_ble_eq_true rfl⟩ (Nat.le_of_ble_eq_true rfl) dL_law_761 (frM ([]) (wCD G a0 w0.1 w0.2.1 w0.2.2.1 w0.2.2.2.1 w0.2.2.2.2.1 w0.2.2.2.2.2.1 w0.2.2.2.2.2.2) (wMod G a1 w1.1 w1.2.1 w1.2.2.1 w1.2.2.2.1 w1.2.2.2.2.1 w1.2.2.2.2.2.1 w1.2.2.2.2.2.2.1 w1.2.2.2.2.2.2.2.1 w1.2.2.2.2.2.2.2.2.1 w1.2.2.2.2.2.2.2.2.2.1 w1.2.2.2.2.2.2.2.2.2.2.1 w1.2.2.2.2.2.2.2.2.2.2.2.1 w1.2.2.2.2.2.2.2.2.2.2.2.2.1 w1.2.2.2.2.2.2.2.2.2.2.2.2.2.1 w1.2.2.2.2.2.2.2.2.2.2.2.2.2.2.1 w1.2.2.2.2.2.2.2.2.2.2.2.2.2.2.2.1 w1.2.2.2.2.2.2.2.2.2.2.2.2.2.2.2.2)) rfl (pi (fun r225 u226 hw => ?_))
                                                    refine v_to (wCD G a0 w0.1 w0.2.1 w0.2.2.1 w0.2.2.2.1 w0.2.2.2.2.1 w0.2.2.2.2.2.1 w0.2.2.2.2.2.2 ++ wMod G a1 w1.1 w1.2.1 w1.2.2.1 w1.2.2.2.1 w1.2.2.2.2.1 w1.2.2.2.2.2.1 w1.2.2.2.2.2.2.1 w1.2.2.2.2.2.2.2.1 w1.2.2.2.2.2.2.2.2.1 w1.2.2.2.2.2.2.2.2.2.1 w1.2.2.2.2.2.2.2.2.2.2.1 w1.2.2.2.2.2.2.2.2.2.2.2.1 w1.2.2.2.2.2.2.2.2.2.2.2.2.1 w1.2.2.2.2.2.2.2.2.2.2.2.2.2.1 w1.2.2.2.2.2.2.2.2.2.2.2.2.2.2.1 w1.2.2.2.2.2.2.2.2.2.2.2.2.2.2.2.1 w1.2.2.2.2.2.2.2.2.2.2.2.2.2.2.2.2) 764 [(0, .ref b), (1, .ref a0.1), (2, .ref a1.1), (3, .int x3)] _ [.int r225] rfl rfl rfl rfl ?_
                                                    refine v_aload_n (pc2 := 765) S 2 dL_law_764 rfl rfl rfl ?_
                                                    refine v_aload_n (pc2 := 766) S 0 dL_law_765 rfl rfl rfl ?_
                                                    refine v_iload_n (pc2 := 767) S 3 dL_law_766 rfl rfl rfl ?_
                                                    refine v_iconst (v := 1) (pc2 := 768) S dL_law_767 (by decide) rfl ?_
                                                    refine v_iadd (pc2 := 769) S dL_law_768 rfl ?_
                                                    obtain ⟨h227, hw⟩ := hw
                                                    refine v_sld (pc2 := 770) S hX hbl h227 dL_law_769 rfl ?_
                                                    refine v_callV (pc2 := 773) (As := [.int (xs (x3 + (1 : Int32)).toNatClampNeg)]) (rest := [.int r225]) S (c_X9_count l G a1 w1 (xs (x3 + (1 : Int32)).toNatClampNeg) _ hw) mf_X9_count u_1093 u_1094 u_1095 0 9 rfl rfl rfl rfl ⟨rfl, rfl⟩ ⟨Nat.le_of_ble_eq_true rfl, Nat.le_of_ble_eq_true rfl⟩ ⟨Nat.le_of_ble_eq_true rfl, Nat.le_of_ble_eq_true rfl⟩ (Nat.le_of_ble_eq_true rfl) dL_law_770 (frM (wCD G a0 w0.1 w0.2.1 w0.2.2.1 w0.2.2.2.1 w0.2.2.2.2.1 w0.2.2.2.2.2.1 w0.2.2.2.2.2.2) (wMod G a1 w1.1 w1.2.1 w1.2.2.1 w1.2.2.2.1 w1.2.2.2.2.1 w1.2.2.2.2.2.1 w1.2.2.2.2.2.2.1 w1.2.2.2.2.2.2.2.1 w1.2.2.2.2.2.2.2.2.1 w1.2.2.2.2.2.2.2.2.2.1 w1.2.2.2.2.2.2.2.2.2.2.1 w1.2.2.2.2.2.2.2.2.2.2.2.1 w1.2.2.2.2.2.2.2.2.2.2.2.2.1 w1.2.2.2.2.2.2.2.2.2.2.2.2.2.1 w1.2.2.2.2.2.2.2.2.2.2.2.2.2.2.1 w1.2.2.2.2.2.2.2.2.2.2.2.2.2.2.2.1 w1.2.2.2.2.2.2.2.2.2.2.2.2.2.2.2.2) ([])) rfl (pi (fun r228 u229 hw => ?_))
                                                    refine v_to (wCD G a0 w0.1 w0.2.1 w0.2.2.1 w0.2.2.2.1 w0.2.2.2.2.1 w0.2.2.2.2.2.1 w0.2.2.2.2.2.2 ++ wMod G a1 w1.1 w1.2.1 w1.2.2.1 w1.2.2.2.1 w1.2.2.2.2.1 w1.2.2.2.2.2.1 w1.2.2.2.2.2.2.1 w1.2.2.2.2.2.2.2.1 w1.2.2.2.2.2.2.2.2.1 w1.2.2.2.2.2.2.2.2.2.1 w1.2.2.2.2.2.2.2.2.2.2.1 w1.2.2.2.2.2.2.2.2.2.2.2.1 w1.2.2.2.2.2.2.2.2.2.2.2.2.1 w1.2.2.2.2.2.2.2.2.2.2.2.2.2.1 w1.2.2.2.2.2.2.2.2.2.2.2.2.2.2.1 w1.2.2.2.2.2.2.2.2.2.2.2.2.2.2.2.1 w1.2.2.2.2.2.2.2.2.2.2.2.2.2.2.2.2) 773 [(0, .ref b), (1, .ref a0.1), (2, .ref a1.1), (3, .int x3)] _ [.int r228, .int r225] rfl rfl rfl rfl ?_
                                                    refine v_icmp_eq (pc2 := 776) (tgt := 891) S dL_law_773 (by decide) rfl (fun c230 => ?_) (fun c230 => ?_)
                                                    · have hw := hw.1 c230
                                                      obtain ⟨z231, ez231⟩ : ∃ y : Int32, y = x3 + (4 : Int32) := ⟨_, rfl⟩
                                                      have hw := hw z231 ez231
                                                      refine v_iinc (v := z231) (lv2 := [(0, .ref b), (1, .ref a0.1), (2, .ref a1.1), (3, .int z231)]) (pc2 := 894) S 3 dL_law_891 rfl (by rw [ez231]; rfl) (by decide) [1, 2, 3, 0] rfl rfl ?_
                                                      refine v_goto (tgt := 18) S dL_law_894 (by decide) ?_
                                                      exact ih z231 w0 w1 hw
                                                    · have hw := hw.2 c230
                                                      refine v_iconst (v := 0) (pc2 := 777) S dL_law_776 (by decide) rfl ?_
                                                      exact hw.elim
                                                  · have hw := hw.2
                                                    by_cases c232 : z11 = (22 : Int32)
                                                    · have hw := hw.1 c232
                                                      refine v_tableIn (off := 746) (tgt := 778) S dL_law_32 (by rw [c232]; decide) (by rw [c232]; decide) (by rw [c232]; rfl) (by decide) ?_
                                                      refine v_aload_n (pc2 := 779) S 1 dL_law_778 rfl rfl rfl ?_
                                                      refine v_callV (pc2 := 782) (As := []) (rest := []) S (c_X8_tightness l G a0 w0 _ hw) mf_X8_tightness u_738 u_739 u_740 0 8 rfl rfl rfl rfl ⟨rfl, rfl⟩ ⟨Nat.le_of_ble_eq_true rfl, Nat.le_of_ble_eq_true rfl⟩ ⟨Nat.le_of_ble_eq_true rfl, Nat.le_of_ble_eq_true rfl⟩ (Nat.le_of_ble_eq_true rfl) dL_law_779 (frM ([]) (wCD G a0 w0.1 w0.2.1 w0.2.2.1 w0.2.2.2.1 w0.2.2.2.2.1 w0.2.2.2.2.2.1 w0.2.2.2.2.2.2) (wMod G a1 w1.1 w1.2.1 w1.2.2.1 w1.2.2.2.1 w1.2.2.2.2.1 w1.2.2.2.2.2.1 w1.2.2.2.2.2.2.1 w1.2.2.2.2.2.2.2.1 w1.2.2.2.2.2.2.2.2.1 w1.2.2.2.2.2.2.2.2.2.1 w1.2.2.2.2.2.2.2.2.2.2.1 w1.2.2.2.2.2.2.2.2.2.2.2.1 w1.2.2.2.2.2.2.2.2.2.2.2.2.1 w1.2.2.2.2.2.2.2.2.2.2.2.2.2.1 w1.2.2.2.2.2.2.2.2.2.2.2.2.2.2.1 w1.2.2.2.2.2.2.2.2.2.2.2.2.2.2.2.1 w1.2.2.2.2.2.2.2.2.2.2.2.2.2.2.2.2)) rfl (pd (fun r233 u234 hw => ?_))
                                                      refine v_to (wCD G a0 w0.1 w0.2.1 w0.2.2.1 w0.2.2.2.1 w0.2.2.2.2.1 w0.2.2.2.2.2.1 w0.2.2.2.2.2.2 ++ wMod G a1 w1.1 w1.2.1 w1.2.2.1 w1.2.2.2.1 w1.2.2.2.2.1 w1.2.2.2.2.2.1 w1.2.2.2.2.2.2.1 w1.2.2.2.2.2.2.2.1 w1.2.2.2.2.2.2.2.2.1 w1.2.2.2.2.2.2.2.2.2.1 w1.2.2.2.2.2.2.2.2.2.2.1 w1.2.2.2.2.2.2.2.2.2.2.2.1 w1.2.2.2.2.2.2.2.2.2.2.2.2.1 w1.2.2.2.2.2.2.2.2.2.2.2.2.2.1 w1.2.2.2.2.2.2.2.2.2.2.2.2.2.2.1 w1.2.2.2.2.2.2.2.2.2.2.2.2.2.2.2.1 w1.2.2.2.2.2.2.2.2.2.2.2.2.2.2.2.2) 782 [(0, .ref b), (1, .ref a0.1), (2, .ref a1.1), (3, .int x3)] _ [.double r233] rfl rfl rfl rfl ?_
                                                      refine v_nmd (fun z235 ez235 => ?_)
                                                      have hw := hw z235 ez235
                                                      refine v_dstore (lv2 := [(0, .ref b), (1, .ref a0.1), (2, .ref a1.1), (3, .int x3), (4, .double z235)]) (pc2 := 784) S dL_law_782 (by decide) [1, 2, 3, 4, 0] rfl rfl ?_
                                                      refine v_aload_n (pc2 := 785) S 2 dL_law_784 rfl rfl rfl ?_
                                                      refine v_callV (pc2 := 788) (As := []) (rest := []) S (c_X9_tightness l G a1 w1 _ hw) mf_X9_tightness u_1113 u_1114 u_1115 0 9 rfl rfl rfl rfl ⟨rfl, rfl⟩ ⟨Nat.le_of_ble_eq_true rfl, Nat.le_of_ble_eq_true rfl⟩ ⟨Nat.le_of_ble_eq_true rfl, Nat.le_of_ble_eq_true rfl⟩ (Nat.le_of_ble_eq_true rfl) dL_law_785 (frM (wCD G a0 w0.1 w0.2.1 w0.2.2.1 w0.2.2.2.1 w0.2.2.2.2.1 w0.2.2.2.2.2.1 w0.2.2.2.2.2.2) (wMod G a1 w1.1 w1.2.1 w1.2.2.1 w1.2.2.2.1 w1.2.2.2.2.1 w1.2.2.2.2.2.1 w1.2.2.2.2.2.2.1 w1.2.2.2.2.2.2.2.1 w1.2.2.2.2.2.2.2.2.1 w1.2.2.2.2.2.2.2.2.2.1 w1.2.2.2.2.2.2.2.2.2.2.1 w1.2.2.2.2.2.2.2.2.2.2.2.1 w1.2.2.2.2.2.2.2.2.2.2.2.2.1 w1.2.2.2.2.2.2.2.2.2.2.2.2.2.1 w1.2.2.2.2.2.2.2.2.2.2.2.2.2.2.1 w1.2.2.2.2.2.2.2.2.2.2.2.2.2.2.2.1 w1.2.2.2.2.2.2.2.2.2.2.2.2.2.2.2.2) ([])) rfl (pd (fun r236 u237 hw => ?_))
                                                      refine v_to (wCD G a0 w0.1 w0.2.1 w0.2.2.1 w0.2.2.2.1 w0.2.2.2.2.1 w0.2.2.2.2.2.1 w0.2.2.2.2.2.2 ++ wMod G a1 w1.1 w1.2.1 w1.2.2.1 w1.2.2.2.1 w1.2.2.2.2.1 w1.2.2.2.2.2.1 w1.2.2.2.2.2.2.1 w1.2.2.2.2.2.2.2.1 w1.2.2.2.2.2.2.2.2.1 w1.2.2.2.2.2.2.2.2.2.1 w1.2.2.2.2.2.2.2.2.2.2.1 w1.2.2.2.2.2.2.2.2.2.2.2.1 w1.2.2.2.2.2.2.2.2.2.2.2.2.1 w1.2.2.2.2.2.2.2.2.2.2.2.2.2.1 w1.2.2.2.2.2.2.2.2.2.2.2.2.2.2.1 w1.2.2.2.2.2.2.2.2.2.2.2.2.2.2.2.1 w1.2.2.2.2.2.2.2.2.2.2.2.2.2.2.2.2) 788 [(0, .ref b), (1, .ref a0.1), (2, .ref a1.1), (3, .int x3), (4, .double z235)] _ [.double r236] rfl rfl rfl rfl ?_
                                                      refine v_nmd (fun z238 ez238 => ?_)
                                                      have hw := hw z238 ez238
                                                      refine v_dstore (lv2 := [(0, .ref b), (1, .ref a0.1), (2, .ref a1.1), (3, .int x3), (4, .double z235), (6, .double z238)]) (pc2 := 790) S dL_law_788 (by decide) [1, 2, 3, 4, 5, 0] rfl rfl ?_
                                                      refine v_dload (pc2 := 792) S 4 dL_law_790 rfl rfl ?_
                                                      refine v_dload (pc2 := 794) S 5 dL_law_792 rfl rfl ?_
                                                      refine v_dcmp (pc2 := 795) S dL_law_794 rfl ?_
                                                      refine v_if_eq (pc2 := 798) (tgt := 816) S dL_law_795 (by decide) rfl (fun c239 => ?_) (fun c239 => ?_)
                                                      · have hw := hw.1 c239
                                                        refine v_goto (tgt := 891) S dL_law_816 (by decide) ?_
                                                        obtain ⟨z240, ez240⟩ : ∃ y : Int32, y = x3 + (4 : Int32) := ⟨_, rfl⟩
                                                        have hw := hw z240 ez240
                                                        refine v_iinc (v := z240) (lv2 := [(0, .ref b), (1, .ref a0.1), (2, .ref a1.1), (3, .int z240), (4, .double z235), (6, .double z238)]) (pc2 := 894) S 3 dL_law_891 rfl (by rw [ez240]; rfl) (by decide) [1, 2, 3, 0, 4, 5] rfl rfl ?_
                                                        refine v_goto (tgt := 18) S dL_law_894 (by decide) ?_
                                                        refine v_lv [(0, .ref b), (1, .ref a0.1), (2, .ref a1.1), (3, .int z240)] [0, 1, 2, 3] rfl ?_
                                                        exact ih z240 w0 w1 hw
                                                      · have hw := hw.2 c239
                                                        refine v_dload (pc2 := 800) S 4 dL_law_798 rfl rfl ?_
                                                        refine v_dload (pc2 := 802) S 4 dL_law_800 rfl rfl ?_
                                                        refine v_dcmp (pc2 := 803) S dL_law_802 rfl ?_
                                                        refine v_if_eq (pc2 := 806) (tgt := 814) S dL_law_803 (by decide) rfl (fun c241 => ?_) (fun c241 => ?_)
                                                        · have hw := hw.1 c241
                                                          refine v_iconst (v := 0) (pc2 := 815) S dL_law_814 (by decide) rfl ?_
                                                          exact hw.elim
                                                        · have hw := hw.2 c241
                                                          refine v_dload (pc2 := 808) S 5 dL_law_806 rfl rfl ?_
                                                          refine v_dload (pc2 := 810) S 5 dL_law_808 rfl rfl ?_
                                                          refine v_dcmp (pc2 := 811) S dL_law_810 rfl ?_
                                                          refine v_if_ne (pc2 := 814) (tgt := 816) S dL_law_811 (by decide) rfl (fun c242 => ?_) (fun c242 => ?_)
                                                          · have hw := hw.1 c242
                                                            refine v_goto (tgt := 891) S dL_law_816 (by decide) ?_
                                                            obtain ⟨z243, ez243⟩ : ∃ y : Int32, y = x3 + (4 : Int32) := ⟨_, rfl⟩
                                                            have hw := hw z243 ez243
                                                            refine v_iinc (v := z243) (lv2 := [(0, .ref b), (1, .ref a0.1), (2, .ref a1.1), (3, .int z243), (4, .double z235), (6, .double z238)]) (pc2 := 894) S 3 dL_law_891 rfl (by rw [ez243]; rfl) (by decide) [1, 2, 3, 0, 4, 5] rfl rfl ?_
                                                            refine v_goto (tgt := 18) S dL_law_894 (by decide) ?_
                                                            refine v_lv [(0, .ref b), (1, .ref a0.1), (2, .ref a1.1), (3, .int z243)] [0, 1, 2, 3] rfl ?_
                                                            exact ih z243 w0 w1 hw
                                                          · have hw := hw.2 c242
                                                            refine v_iconst (v := 0) (pc2 := 815) S dL_law_814 (by decide) rfl ?_
                                                            exact hw.elim
                                                    · have hw := hw.2
                                                      by_cases c244 : z11 = (23 : Int32)
                                                      · have hw := hw.1 c244
                                                        refine v_tableIn (off := 787) (tgt := 819) S dL_law_32 (by rw [c244]; decide) (by rw [c244]; decide) (by rw [c244]; rfl) (by decide) ?_
                                                        refine v_aload_n (pc2 := 820) S 1 dL_law_819 rfl rfl rfl ?_
                                                        refine v_aload_n (pc2 := 821) S 0 dL_law_820 rfl rfl rfl ?_
                                                        refine v_iload_n (pc2 := 822) S 3 dL_law_821 rfl rfl rfl ?_
                                                        refine v_iconst (v := 1) (pc2 := 823) S dL_law_822 (by decide) rfl ?_
                                                        refine v_iadd (pc2 := 824) S dL_law_823 rfl ?_
                                                        obtain ⟨h245, hw⟩ := hw
                                                        refine v_sld (pc2 := 825) S hX hbl h245 dL_law_824 rfl ?_
                                                        refine v_aload_n (pc2 := 826) S 0 dL_law_825 rfl rfl rfl ?_
                                                        refine v_iload_n (pc2 := 827) S 3 dL_law_826 rfl rfl rfl ?_
                                                        refine v_iconst (v := 2) (pc2 := 828) S dL_law_827 (by decide) rfl ?_
                                                        refine v_iadd (pc2 := 829) S dL_law_828 rfl ?_
                                                        obtain ⟨h246, hw⟩ := hw
                                                        refine v_sld (pc2 := 830) S hX hbl h246 dL_law_829 rfl ?_
                                                        refine v_callV (pc2 := 833) (As := [.int (xs (x3 + (1 : Int32)).toNatClampNeg), .int (xs (x3 + (2 : Int32)).toNatClampNeg)]) (rest := []) S (c_X8_ifOpened l G a0 w0 (xs (x3 + (1 : Int32)).toNatClampNeg) (xs (x3 + (2 : Int32)).toNatClampNeg) _ hw) mf_X8_ifOpened u_742 u_743 u_744 0 8 rfl rfl rfl rfl ⟨rfl, rfl⟩ ⟨Nat.le_of_ble_eq_true rfl, Nat.le_of_ble_eq_true rfl⟩ ⟨Nat.le_of_ble_eq_true rfl, Nat.le_of_ble_eq_true rfl⟩ (Nat.le_of_ble_eq_true rfl) dL_law_830 (frM ([]) (wCD G a0 w0.1 w0.2.1 w0.2.2.1 w0.2.2.2.1 w0.2.2.2.2.1 w0.2.2.2.2.2.1 w0.2.2.2.2.2.2) (wMod G a1 w1.1 w1.2.1 w1.2.2.1 w1.2.2.2.1 w1.2.2.2.2.1 w1.2.2.2.2.2.1 w1.2.2.2.2.2.2.1 w1.2.2.2.2.2.2.2.1 w1.2.2.2.2.2.2.2.2.1 w1.2.2.2.2.2.2.2.2.2.1 w1.2.2.2.2.2.2.2.2.2.2.1 w1.2.2.2.2.2.2.2.2.2.2.2.1 w1.2.2.2.2.2.2.2.2.2.2.2.2.1 w1.2.2.2.2.2.2.2.2.2.2.2.2.2.1 w1.2.2.2.2.2.2.2.2.2.2.2.2.2.2.1 w1.2.2.2.2.2.2.2.2.2.2.2.2.2.2.2.1 w1.2.2.2.2.2.2.2.2.2.2.2.2.2.2.2.2)) rfl (pi (fun r247 u248 hw => ?_))
                                                        refine v_to (wCD G a0 w0.1 w0.2.1 w0.2.2.1 w0.2.2.2.1 w0.2.2.2.2.1 w0.2.2.2.2.2.1 w0.2.2.2.2.2.2 ++ wMod G a1 w1.1 w1.2.1 w1.2.2.1 w1.2.2.2.1 w1.2.2.2.2.1 w1.2.2.2.2.2.1 w1.2.2.2.2.2.2.1 w1.2.2.2.2.2.2.2.1 w1.2.2.2.2.2.2.2.2.1 w1.2.2.2.2.2.2.2.2.2.1 w1.2.2.2.2.2.2.2.2.2.2.1 w1.2.2.2.2.2.2.2.2.2.2.2.1 w1.2.2.2.2.2.2.2.2.2.2.2.2.1 w1.2.2.2.2.2.2.2.2.2.2.2.2.2.1 w1.2.2.2.2.2.2.2.2.2.2.2.2.2.2.1 w1.2.2.2.2.2.2.2.2.2.2.2.2.2.2.2.1 w1.2.2.2.2.2.2.2.2.2.2.2.2.2.2.2.2) 833 [(0, .ref b), (1, .ref a0.1), (2, .ref a1.1), (3, .int x3)] _ [.int r247] rfl rfl rfl rfl ?_
                                                        refine v_aload_n (pc2 := 834) S 2 dL_law_833 rfl rfl rfl ?_
                                                        refine v_aload_n (pc2 := 835) S 0 dL_law_834 rfl rfl rfl ?_
                                                        refine v_iload_n (pc2 := 836) S 3 dL_law_835 rfl rfl rfl ?_
                                                        refine v_iconst (v := 1) (pc2 := 837) S dL_law_836 (by decide) rfl ?_
                                                        refine v_iadd (pc2 := 838) S dL_law_837 rfl ?_
                                                        obtain ⟨h249, hw⟩ := hw
                                                        refine v_sld (pc2 := 839) S hX hbl h249 dL_law_838 rfl ?_
                                                        refine v_aload_n (pc2 := 840) S 0 dL_law_839 rfl rfl rfl ?_
                                                        refine v_iload_n (pc2 := 841) S 3 dL_law_840 rfl rfl rfl ?_
                                                        refine v_iconst (v := 2) (pc2 := 842) S dL_law_841 (by decide) rfl ?_
                                                        refine v_iadd (pc2 := 843) S dL_law_842 rfl ?_
                                                        obtain ⟨h250, hw⟩ := hw
                                                        refine v_sld (pc2 := 844) S hX hbl h250 dL_law_843 rfl ?_
                                                        refine v_callV (pc2 := 847) (As := [.int (xs (x3 + (1 : Int32)).toNatClampNeg), .int (xs (x3 + (2 : Int32)).toNatClampNeg)]) (rest := [.int r247]) S (c_X9_ifOpened l G a1 w1 (xs (x3 + (1 : Int32)).toNatClampNeg) (xs (x3 + (2 : Int32)).toNatClampNeg) _ hw) mf_X9_ifOpened u_1117 u_1118 u_1119 0 9 rfl rfl rfl rfl ⟨rfl, rfl⟩ ⟨Nat.le_of_ble_eq_true rfl, Nat.le_of_ble_eq_true rfl⟩ ⟨Nat.le_of_ble_eq_true rfl, Nat.le_of_ble_eq_true rfl⟩ (Nat.le_of_ble_eq_true rfl) dL_law_844 (frM (wCD G a0 w0.1 w0.2.1 w0.2.2.1 w0.2.2.2.1 w0.2.2.2.2.1 w0.2.2.2.2.2.1 w0.2.2.2.2.2.2) (wMod G a1 w1.1 w1.2.1 w1.2.2.1 w1.2.2.2.1 w1.2.2.2.2.1 w1.2.2.2.2.2.1 w1.2.2.2.2.2.2.1 w1.2.2.2.2.2.2.2.1 w1.2.2.2.2.2.2.2.2.1 w1.2.2.2.2.2.2.2.2.2.1 w1.2.2.2.2.2.2.2.2.2.2.1 w1.2.2.2.2.2.2.2.2.2.2.2.1 w1.2.2.2.2.2.2.2.2.2.2.2.2.1 w1.2.2.2.2.2.2.2.2.2.2.2.2.2.1 w1.2.2.2.2.2.2.2.2.2.2.2.2.2.2.1 w1.2.2.2.2.2.2.2.2.2.2.2.2.2.2.2.1 w1.2.2.2.2.2.2.2.2.2.2.2.2.2.2.2.2) ([])) rfl (pi (fun r251 u252 hw => ?_))
                                                        refine v_to (wCD G a0 w0.1 w0.2.1 w0.2.2.1 w0.2.2.2.1 w0.2.2.2.2.1 w0.2.2.2.2.2.1 w0.2.2.2.2.2.2 ++ wMod G a1 u252.1 u252.2.1 u252.2.2.1 u252.2.2.2.1 u252.2.2.2.2.1 u252.2.2.2.2.2.1 u252.2.2.2.2.2.2.1 u252.2.2.2.2.2.2.2.1 u252.2.2.2.2.2.2.2.2.1 u252.2.2.2.2.2.2.2.2.2.1 u252.2.2.2.2.2.2.2.2.2.2.1 u252.2.2.2.2.2.2.2.2.2.2.2.1 u252.2.2.2.2.2.2.2.2.2.2.2.2.1 u252.2.2.2.2.2.2.2.2.2.2.2.2.2.1 u252.2.2.2.2.2.2.2.2.2.2.2.2.2.2.1 u252.2.2.2.2.2.2.2.2.2.2.2.2.2.2.2.1 u252.2.2.2.2.2.2.2.2.2.2.2.2.2.2.2.2) 847 [(0, .ref b), (1, .ref a0.1), (2, .ref a1.1), (3, .int x3)] _ [.int r251, .int r247] rfl rfl rfl rfl ?_
                                                        refine v_icmp_eq (pc2 := 850) (tgt := 891) S dL_law_847 (by decide) rfl (fun c253 => ?_) (fun c253 => ?_)
                                                        · have hw := hw.1 c253
                                                          obtain ⟨z254, ez254⟩ : ∃ y : Int32, y = x3 + (4 : Int32) := ⟨_, rfl⟩
                                                          have hw := hw z254 ez254
                                                          refine v_iinc (v := z254) (lv2 := [(0, .ref b), (1, .ref a0.1), (2, .ref a1.1), (3, .int z254)]) (pc2 := 894) S 3 dL_law_891 rfl (by rw [ez254]; rfl) (by decide) [1, 2, 3, 0] rfl rfl ?_
                                                          refine v_goto (tgt := 18) S dL_law_894 (by decide) ?_
                                                          exact ih z254 w0 u252 hw
                                                        · have hw := hw.2 c253
                                                          refine v_iconst (v := 0) (pc2 := 851) S dL_law_850 (by decide) rfl ?_
                                                          exact hw.elim
                                                      · have hw := hw.2
                                                        by_cases c255 : z11 = (24 : Int32)
                                                        · have hw := hw.1 c255
                                                          refine v_tableIn (off := 820) (tgt := 852) S dL_law_32 (by rw [c255]; decide) (by rw [c255]; decide) (by rw [c255]; rfl) (by decide) ?_
                                                          refine v_aload_n (pc2 := 853) S 1 dL_law_852 rfl rfl rfl ?_
                                                          refine v_callV (pc2 := 856) (As := []) (rest := []) S (c_X8_undo l G a0 w0 _ hw) mf_X8_undo u_748 u_749 u_750 0 8 rfl rfl rfl rfl ⟨rfl, rfl⟩ ⟨Nat.le_of_ble_eq_true rfl, Nat.le_of_ble_eq_true rfl⟩ ⟨Nat.le_of_ble_eq_true rfl, Nat.le_of_ble_eq_true rfl⟩ (Nat.le_of_ble_eq_true rfl) dL_law_853 (frM ([]) (wCD G a0 w0.1 w0.2.1 w0.2.2.1 w0.2.2.2.1 w0.2.2.2.2.1 w0.2.2.2.2.2.1 w0.2.2.2.2.2.2) (wMod G a1 w1.1 w1.2.1 w1.2.2.1 w1.2.2.2.1 w1.2.2.2.2.1 w1.2.2.2.2.2.1 w1.2.2.2.2.2.2.1 w1.2.2.2.2.2.2.2.1 w1.2.2.2.2.2.2.2.2.1 w1.2.2.2.2.2.2.2.2.2.1 w1.2.2.2.2.2.2.2.2.2.2.1 w1.2.2.2.2.2.2.2.2.2.2.2.1 w1.2.2.2.2.2.2.2.2.2.2.2.2.1 w1.2.2.2.2.2.2.2.2.2.2.2.2.2.1 w1.2.2.2.2.2.2.2.2.2.2.2.2.2.2.1 w1.2.2.2.2.2.2.2.2.2.2.2.2.2.2.2.1 w1.2.2.2.2.2.2.2.2.2.2.2.2.2.2.2.2)) rfl (pi (fun r256 u257 hw => ?_))
                                                          refine v_to (wCD G a0 u257.1 u257.2.1 u257.2.2.1 u257.2.2.2.1 u257.2.2.2.2.1 u257.2.2.2.2.2.1 u257.2.2.2.2.2.2 ++ wMod G a1 w1.1 w1.2.1 w1.2.2.1 w1.2.2.2.1 w1.2.2.2.2.1 w1.2.2.2.2.2.1 w1.2.2.2.2.2.2.1 w1.2.2.2.2.2.2.2.1 w1.2.2.2.2.2.2.2.2.1 w1.2.2.2.2.2.2.2.2.2.1 w1.2.2.2.2.2.2.2.2.2.2.1 w1.2.2.2.2.2.2.2.2.2.2.2.1 w1.2.2.2.2.2.2.2.2.2.2.2.2.1 w1.2.2.2.2.2.2.2.2.2.2.2.2.2.1 w1.2.2.2.2.2.2.2.2.2.2.2.2.2.2.1 w1.2.2.2.2.2.2.2.2.2.2.2.2.2.2.2.1 w1.2.2.2.2.2.2.2.2.2.2.2.2.2.2.2.2) 856 [(0, .ref b), (1, .ref a0.1), (2, .ref a1.1), (3, .int x3)] _ [.int r256] rfl rfl rfl rfl ?_
                                                          refine v_aload_n (pc2 := 857) S 2 dL_law_856 rfl rfl rfl ?_
                                                          refine v_callV (pc2 := 860) (As := []) (rest := [.int r256]) S (c_X9_undo l G a1 w1 _ hw) mf_X9_undo u_827 u_828 u_829 0 9 rfl rfl rfl rfl ⟨rfl, rfl⟩ ⟨Nat.le_of_ble_eq_true rfl, Nat.le_of_ble_eq_true rfl⟩ ⟨Nat.le_of_ble_eq_true rfl, Nat.le_of_ble_eq_true rfl⟩ (Nat.le_of_ble_eq_true rfl) dL_law_857 (frM (wCD G a0 u257.1 u257.2.1 u257.2.2.1 u257.2.2.2.1 u257.2.2.2.2.1 u257.2.2.2.2.2.1 u257.2.2.2.2.2.2) (wMod G a1 w1.1 w1.2.1 w1.2.2.1 w1.2.2.2.1 w1.2.2.2.2.1 w1.2.2.2.2.2.1 w1.2.2.2.2.2.2.1 w1.2.2.2.2.2.2.2.1 w1.2.2.2.2.2.2.2.2.1 w1.2.2.2.2.2.2.2.2.2.1 w1.2.2.2.2.2.2.2.2.2.2.1 w1.2.2.2.2.2.2.2.2.2.2.2.1 w1.2.2.2.2.2.2.2.2.2.2.2.2.1 w1.2.2.2.2.2.2.2.2.2.2.2.2.2.1 w1.2.2.2.2.2.2.2.2.2.2.2.2.2.2.1 w1.2.2.2.2.2.2.2.2.2.2.2.2.2.2.2.1 w1.2.2.2.2.2.2.2.2.2.2.2.2.2.2.2.2) ([])) rfl (pi (fun r258 u259 hw => ?_))
                                                          refine v_to (wCD G a0 u257.1 u257.2.1 u257.2.2.1 u257.2.2.2.1 u257.2.2.2.2.1 u257.2.2.2.2.2.1 u257.2.2.2.2.2.2 ++ wMod G a1 u259.1 u259.2.1 u259.2.2.1 u259.2.2.2.1 u259.2.2.2.2.1 u259.2.2.2.2.2.1 u259.2.2.2.2.2.2.1 u259.2.2.2.2.2.2.2.1 u259.2.2.2.2.2.2.2.2.1 u259.2.2.2.2.2.2.2.2.2.1 u259.2.2.2.2.2.2.2.2.2.2.1 u259.2.2.2.2.2.2.2.2.2.2.2.1 u259.2.2.2.2.2.2.2.2.2.2.2.2.1 u259.2.2.2.2.2.2.2.2.2.2.2.2.2.1 u259.2.2.2.2.2.2.2.2.2.2.2.2.2.2.1 u259.2.2.2.2.2.2.2.2.2.2.2.2.2.2.2.1 u259.2.2.2.2.2.2.2.2.2.2.2.2.2.2.2.2) 860 [(0, .ref b), (1, .ref a0.1), (2, .ref a1.1), (3, .int x3)] _ [.int r258, .int r256] rfl rfl rfl rfl ?_
                                                          refine v_icmp_eq (pc2 := 863) (tgt := 891) S dL_law_860 (by decide) rfl (fun c260 => ?_) (fun c260 => ?_)
                                                          · have hw := hw.1 c260
                                                            obtain ⟨z261, ez261⟩ : ∃ y : Int32, y = x3 + (4 : Int32) := ⟨_, rfl⟩
                                                            have hw := hw z261 ez261
                                                            refine v_iinc (v := z261) (lv2 := [(0, .ref b), (1, .ref a0.1), (2, .ref a1.1), (3, .int z261)]) (pc2 := 894) S 3 dL_law_891 rfl (by rw [ez261]; rfl) (by decide) [1, 2, 3, 0] rfl rfl ?_
                                                            refine v_goto (tgt := 18) S dL_law_894 (by decide) ?_
                                                            exact ih z261 u257 u259 hw
                                                          · have hw := hw.2 c260
                                                            refine v_iconst (v := 0) (pc2 := 864) S dL_law_863 (by decide) rfl ?_
                                                            exact hw.elim
                                                        · have hw := hw.2
                                                          by_cases c262 : z11 = (25 : Int32)
                                                          · have hw := hw.1 c262
                                                            refine v_tableIn (off := 833) (tgt := 865) S dL_law_32 (by rw [c262]; decide) (by rw [c262]; decide) (by rw [c262]; rfl) (by decide) ?_
                                                            refine v_aload_n (pc2 := 866) S 1 dL_law_865 rfl rfl rfl ?_
                                                            refine v_callV (pc2 := 869) (As := []) (rest := []) S (c_X8_save l G a0 w0 _ hw) mf_X8_save u_756 u_757 u_758 0 8 rfl rfl rfl rfl ⟨rfl, rfl⟩ ⟨Nat.le_of_ble_eq_true rfl, Nat.le_of_ble_eq_true rfl⟩ ⟨Nat.le_of_ble_eq_true rfl, Nat.le_of_ble_eq_true rfl⟩ (Nat.le_of_ble_eq_true rfl) dL_law_866 (frM ([]) (wCD G a0 w0.1 w0.2.1 w0.2.2.1 w0.2.2.2.1 w0.2.2.2.2.1 w0.2.2.2.2.2.1 w0.2.2.2.2.2.2) (wMod G a1 w1.1 w1.2.1 w1.2.2.1 w1.2.2.2.1 w1.2.2.2.2.1 w1.2.2.2.2.2.1 w1.2.2.2.2.2.2.1 w1.2.2.2.2.2.2.2.1 w1.2.2.2.2.2.2.2.2.1 w1.2.2.2.2.2.2.2.2.2.1 w1.2.2.2.2.2.2.2.2.2.2.1 w1.2.2.2.2.2.2.2.2.2.2.2.1 w1.2.2.2.2.2.2.2.2.2.2.2.2.1 w1.2.2.2.2.2.2.2.2.2.2.2.2.2.1 w1.2.2.2.2.2.2.2.2.2.2.2.2.2.2.1 w1.2.2.2.2.2.2.2.2.2.2.2.2.2.2.2.1 w1.2.2.2.2.2.2.2.2.2.2.2.2.2.2.2.2)) rfl (pi (fun r263 u264 hw => ?_))
                                                            refine v_to (wCD G a0 u264.1 u264.2.1 u264.2.2.1 u264.2.2.2.1 u264.2.2.2.2.1 u264.2.2.2.2.2.1 u264.2.2.2.2.2.2 ++ wMod G a1 w1.1 w1.2.1 w1.2.2.1 w1.2.2.2.1 w1.2.2.2.2.1 w1.2.2.2.2.2.1 w1.2.2.2.2.2.2.1 w1.2.2.2.2.2.2.2.1 w1.2.2.2.2.2.2.2.2.1 w1.2.2.2.2.2.2.2.2.2.1 w1.2.2.2.2.2.2.2.2.2.2.1 w1.2.2.2.2.2.2.2.2.2.2.2.1 w1.2.2.2.2.2.2.2.2.2.2.2.2.1 w1.2.2.2.2.2.2.2.2.2.2.2.2.2.1 w1.2.2.2.2.2.2.2.2.2.2.2.2.2.2.1 w1.2.2.2.2.2.2.2.2.2.2.2.2.2.2.2.1 w1.2.2.2.2.2.2.2.2.2.2.2.2.2.2.2.2) 869 [(0, .ref b), (1, .ref a0.1), (2, .ref a1.1), (3, .int x3)] _ [.int r263] rfl rfl rfl rfl ?_
                                                            refine v_aload_n (pc2 := 870) S 2 dL_law_869 rfl rfl rfl ?_
                                                            refine v_callV (pc2 := 873) (As := []) (rest := [.int r263]) S (c_X9_save l G a1 w1 _ hw) mf_X9_save u_834 u_835 u_836 0 9 rfl rfl rfl rfl ⟨rfl, rfl⟩ ⟨Nat.le_of_ble_eq_true rfl, Nat.le_of_ble_eq_true rfl⟩ ⟨Nat.le_of_ble_eq_true rfl, Nat.le_of_ble_eq_true rfl⟩ (Nat.le_of_ble_eq_true rfl) dL_law_870 (frM (wCD G a0 u264.1 u264.2.1 u264.2.2.1 u264.2.2.2.1 u264.2.2.2.2.1 u264.2.2.2.2.2.1 u264.2.2.2.2.2.2) (wMod G a1 w1.1 w1.2.1 w1.2.2.1 w1.2.2.2.1 w1.2.2.2.2.1 w1.2.2.2.2.2.1 w1.2.2.2.2.2.2.1 w1.2.2.2.2.2.2.2.1 w1.2.2.2.2.2.2.2.2.1 w1.2.2.2.2.2.2.2.2.2.1 w1.2.2.2.2.2.2.2.2.2.2.1 w1.2.2.2.2.2.2.2.2.2.2.2.1 w1.2.2.2.2.2.2.2.2.2.2.2.2.1 w1.2.2.2.2.2.2.2.2.2.2.2.2.2.1 w1.2.2.2.2.2.2.2.2.2.2.2.2.2.2.1 w1.2.2.2.2.2.2.2.2.2.2.2.2.2.2.2.1 w1.2.2.2.2.2.2.2.2.2.2.2.2.2.2.2.2) ([])) rfl (pi (fun r265 u266 hw => ?_))
                                                            refine v_to (wCD G a0 u264.1 u264.2.1 u264.2.2.1 u264.2.2.2.1 u264.2.2.2.2.1 u264.2.2.2.2.2.1 u264.2.2.2.2.2.2 ++ wMod G a1 u266.1 u266.2.1 u266.2.2.1 u266.2.2.2.1 u266.2.2.2.2.1 u266.2.2.2.2.2.1 u266.2.2.2.2.2.2.1 u266.2.2.2.2.2.2.2.1 u266.2.2.2.2.2.2.2.2.1 u266.2.2.2.2.2.2.2.2.2.1 u266.2.2.2.2.2.2.2.2.2.2.1 u266.2.2.2.2.2.2.2.2.2.2.2.1 u266.2.2.2.2.2.2.2.2.2.2.2.2.1 u266.2.2.2.2.2.2.2.2.2.2.2.2.2.1 u266.2.2.2.2.2.2.2.2.2.2.2.2.2.2.1 u266.2.2.2.2.2.2.2.2.2.2.2.2.2.2.2.1 u266.2.2.2.2.2.2.2.2.2.2.2.2.2.2.2.2) 873 [(0, .ref b), (1, .ref a0.1), (2, .ref a1.1), (3, .int x3)] _ [.int r265, .int r263] rfl rfl rfl rfl ?_
                                                            refine v_icmp_eq (pc2 := 876) (tgt := 891) S dL_law_873 (by decide) rfl (fun c267 => ?_) (fun c267 => ?_)
                                                            · have hw := hw.1 c267
                                                              obtain ⟨z268, ez268⟩ : ∃ y : Int32, y = x3 + (4 : Int32) := ⟨_, rfl⟩
                                                              have hw := hw z268 ez268
                                                              refine v_iinc (v := z268) (lv2 := [(0, .ref b), (1, .ref a0.1), (2, .ref a1.1), (3, .int z268)]) (pc2 := 894) S 3 dL_law_891 rfl (by rw [ez268]; rfl) (by decide) [1, 2, 3, 0] rfl rfl ?_
                                                              refine v_goto (tgt := 18) S dL_law_894 (by decide) ?_
                                                              exact ih z268 u264 u266 hw
                                                            · have hw := hw.2 c267
                                                              refine v_iconst (v := 0) (pc2 := 877) S dL_law_876 (by decide) rfl ?_
                                                              exact hw.elim
                                                          · have hw := hw.2
                                                            by_cases c269 : z11 = (26 : Int32)
                                                            · have hw := hw.1 c269
                                                              refine v_tableIn (off := 846) (tgt := 878) S dL_law_32 (by rw [c269]; decide) (by rw [c269]; decide) (by rw [c269]; rfl) (by decide) ?_
                                                              refine v_aload_n (pc2 := 879) S 1 dL_law_878 rfl rfl rfl ?_
                                                              refine v_callV (pc2 := 882) (As := []) (rest := []) S (c_X8_restore l G a0 w0 _ hw) mf_X8_restore u_761 u_762 u_763 0 8 rfl rfl rfl rfl ⟨rfl, rfl⟩ ⟨Nat.le_of_ble_eq_true rfl, Nat.le_of_ble_eq_true rfl⟩ ⟨Nat.le_of_ble_eq_true rfl, Nat.le_of_ble_eq_true rfl⟩ (Nat.le_of_ble_eq_true rfl) dL_law_879 (frM ([]) (wCD G a0 w0.1 w0.2.1 w0.2.2.1 w0.2.2.2.1 w0.2.2.2.2.1 w0.2.2.2.2.2.1 w0.2.2.2.2.2.2) (wMod G a1 w1.1 w1.2.1 w1.2.2.1 w1.2.2.2.1 w1.2.2.2.2.1 w1.2.2.2.2.2.1 w1.2.2.2.2.2.2.1 w1.2.2.2.2.2.2.2.1 w1.2.2.2.2.2.2.2.2.1 w1.2.2.2.2.2.2.2.2.2.1 w1.2.2.2.2.2.2.2.2.2.2.1 w1.2.2.2.2.2.2.2.2.2.2.2.1 w1.2.2.2.2.2.2.2.2.2.2.2.2.1 w1.2.2.2.2.2.2.2.2.2.2.2.2.2.1 w1.2.2.2.2.2.2.2.2.2.2.2.2.2.2.1 w1.2.2.2.2.2.2.2.2.2.2.2.2.2.2.2.1 w1.2.2.2.2.2.2.2.2.2.2.2.2.2.2.2.2)) rfl (pi (fun r270 u271 hw => ?_))
                                                              refine v_to (wCD G a0 u271.1 u271.2.1 u271.2.2.1 u271.2.2.2.1 u271.2.2.2.2.1 u271.2.2.2.2.2.1 u271.2.2.2.2.2.2 ++ wMod G a1 w1.1 w1.2.1 w1.2.2.1 w1.2.2.2.1 w1.2.2.2.2.1 w1.2.2.2.2.2.1 w1.2.2.2.2.2.2.1 w1.2.2.2.2.2.2.2.1 w1.2.2.2.2.2.2.2.2.1 w1.2.2.2.2.2.2.2.2.2.1 w1.2.2.2.2.2.2.2.2.2.2.1 w1.2.2.2.2.2.2.2.2.2.2.2.1 w1.2.2.2.2.2.2.2.2.2.2.2.2.1 w1.2.2.2.2.2.2.2.2.2.2.2.2.2.1 w1.2.2.2.2.2.2.2.2.2.2.2.2.2.2.1 w1.2.2.2.2.2.2.2.2.2.2.2.2.2.2.2.1 w1.2.2.2.2.2.2.2.2.2.2.2.2.2.2.2.2) 882 [(0, .ref b), (1, .ref a0.1), (2, .ref a1.1), (3, .int x3)] _ [.int r270] rfl rfl rfl rfl ?_
                                                              refine v_aload_n (pc2 := 883) S 2 dL_law_882 rfl rfl rfl ?_
                                                              refine v_callV (pc2 := 886) (As := []) (rest := [.int r270]) S (c_X9_restore l G a1 w1 _ hw) mf_X9_restore u_846 u_847 u_848 0 9 rfl rfl rfl rfl ⟨rfl, rfl⟩ ⟨Nat.le_of_ble_eq_true rfl, Nat.le_of_ble_eq_true rfl⟩ ⟨Nat.le_of_ble_eq_true rfl, Nat.le_of_ble_eq_true rfl⟩ (Nat.le_of_ble_eq_true rfl) dL_law_883 (frM (wCD G a0 u271.1 u271.2.1 u271.2.2.1 u271.2.2.2.1 u271.2.2.2.2.1 u271.2.2.2.2.2.1 u271.2.2.2.2.2.2) (wMod G a1 w1.1 w1.2.1 w1.2.2.1 w1.2.2.2.1 w1.2.2.2.2.1 w1.2.2.2.2.2.1 w1.2.2.2.2.2.2.1 w1.2.2.2.2.2.2.2.1 w1.2.2.2.2.2.2.2.2.1 w1.2.2.2.2.2.2.2.2.2.1 w1.2.2.2.2.2.2.2.2.2.2.1 w1.2.2.2.2.2.2.2.2.2.2.2.1 w1.2.2.2.2.2.2.2.2.2.2.2.2.1 w1.2.2.2.2.2.2.2.2.2.2.2.2.2.1 w1.2.2.2.2.2.2.2.2.2.2.2.2.2.2.1 w1.2.2.2.2.2.2.2.2.2.2.2.2.2.2.2.1 w1.2.2.2.2.2.2.2.2.2.2.2.2.2.2.2.2) ([])) rfl (pi (fun r272 u273 hw => ?_))
                                                              refine v_to (wCD G a0 u271.1 u271.2.1 u271.2.2.1 u271.2.2.2.1 u271.2.2.2.2.1 u271.2.2.2.2.2.1 u271.2.2.2.2.2.2 ++ wMod G a1 u273.1 u273.2.1 u273.2.2.1 u273.2.2.2.1 u273.2.2.2.2.1 u273.2.2.2.2.2.1 u273.2.2.2.2.2.2.1 u273.2.2.2.2.2.2.2.1 u273.2.2.2.2.2.2.2.2.1 u273.2.2.2.2.2.2.2.2.2.1 u273.2.2.2.2.2.2.2.2.2.2.1 u273.2.2.2.2.2.2.2.2.2.2.2.1 u273.2.2.2.2.2.2.2.2.2.2.2.2.1 u273.2.2.2.2.2.2.2.2.2.2.2.2.2.1 u273.2.2.2.2.2.2.2.2.2.2.2.2.2.2.1 u273.2.2.2.2.2.2.2.2.2.2.2.2.2.2.2.1 u273.2.2.2.2.2.2.2.2.2.2.2.2.2.2.2.2) 886 [(0, .ref b), (1, .ref a0.1), (2, .ref a1.1), (3, .int x3)] _ [.int r272, .int r270] rfl rfl rfl rfl ?_
                                                              refine v_icmp_eq (pc2 := 889) (tgt := 891) S dL_law_886 (by decide) rfl (fun c274 => ?_) (fun c274 => ?_)
                                                              · have hw := hw.1 c274
                                                                obtain ⟨z275, ez275⟩ : ∃ y : Int32, y = x3 + (4 : Int32) := ⟨_, rfl⟩
                                                                have hw := hw z275 ez275
                                                                refine v_iinc (v := z275) (lv2 := [(0, .ref b), (1, .ref a0.1), (2, .ref a1.1), (3, .int z275)]) (pc2 := 894) S 3 dL_law_891 rfl (by rw [ez275]; rfl) (by decide) [1, 2, 3, 0] rfl rfl ?_
                                                                refine v_goto (tgt := 18) S dL_law_894 (by decide) ?_
                                                                exact ih z275 u271 u273 hw
                                                              · have hw := hw.2 c274
                                                                refine v_iconst (v := 0) (pc2 := 890) S dL_law_889 (by decide) rfl ?_
                                                                exact hw.elim
                                                            · have hw := hw.2
                                                              have hw := hw c12 c21 c30 c45 c58 c69 c78 c89 c100 c111 c120 c127 c134 c141 c150 c161 c172 c183 c192 c201 c210 c223 c232 c244 c255 c262 c269
                                                              refine v_tableOut (tgt := 891) S dL_law_32 (sw_out26 c12 c21 c30 c45 c58 c69 c78 c89 c100 c111 c120 c127 c134 c141 c150 c161 c172 c183 c192 c201 c210 c223 c232 c244 c255 c262 c269) (by decide) ?_
                                                              obtain ⟨z276, ez276⟩ : ∃ y : Int32, y = x3 + (4 : Int32) := ⟨_, rfl⟩
                                                              have hw := hw z276 ez276
                                                              refine v_iinc (v := z276) (lv2 := [(0, .ref b), (1, .ref a0.1), (2, .ref a1.1), (3, .int z276)]) (pc2 := 894) S 3 dL_law_891 rfl (by rw [ez276]; rfl) (by decide) [1, 2, 3, 0] rfl rfl ?_
                                                              refine v_goto (tgt := 18) S dL_law_894 (by decide) ?_
                                                              exact ih z276 w0 w1 hw
  refine v_new (a := 0) (ci := 8) (N := 7) (C := RX8) (T := TX8) (fs := [.null, .null, .null, .int 0, .null, .null, .null]) (pc2 := 3) S tyX8 tyX8_ok rfl inX8 u_77 u_78 u_63 (fun j hj => by match j, hj with | 0, _ => rfl | 1, _ => rfl | 2, _ => rfl | 3, _ => rfl | 4, _ => rfl | 5, _ => rfl | 6, _ => rfl) (Nat.le_of_ble_eq_true rfl) (Nat.le_of_ble_eq_true rfl) dL_law_0 rfl (fun q1 => ?_)
  refine v_to ([(q1, .inr (8, [.null, .null, .null, .int 0, .null, .null, .null]))]) 3 [(0, .ref b)] _ [.ref q1] rfl rfl rfl rfl ?_
  refine v_dup (pc2 := 4) S dL_law_3 rfl rfl ?_
  refine v_callI (rt2 := none) (pc2 := 7) (As := []) (rest := [.ref q1]) S (c_X8_init l G q1 _ hw) mf_X8_init u_79 u_80 rfl rfl rfl ⟨rfl, rfl⟩ ⟨Nat.le_of_ble_eq_true rfl, Nat.le_of_ble_eq_true rfl⟩ ⟨Nat.le_of_ble_eq_true rfl, Nat.le_of_ble_eq_true rfl⟩ (Nat.le_of_ble_eq_true rfl) dL_law_4 (frM ([]) [(q1, .inr (8, [.null, .null, .null, .int 0, .null, .null, .null]))] []) rfl (pv (fun u2 hw => ?_))
  obtain ⟨⟨b3, b3r⟩, v4⟩ := u2
  obtain ⟨hq, hw⟩ := hw
  have hq : b3 = q1 := hq
  subst b3
  refine v_to (wCD G (q1, b3r) v4.1 v4.2.1 v4.2.2.1 v4.2.2.2.1 v4.2.2.2.2.1 v4.2.2.2.2.2.1 v4.2.2.2.2.2.2) 7 [(0, .ref b)] _ [.ref q1] rfl rfl rfl rfl ?_
  refine v_astore_n (lv2 := [(0, .ref b), (1, .ref q1)]) (pc2 := 8) S dL_law_7 rfl (by decide) [1, 0] rfl rfl ?_
  refine v_new (a := 0) (ci := 9) (N := 17) (C := RX9) (T := TX9) (fs := [.null, .null, .null, .int 0, .null, .int 0, .null, .int 0, .int 0, .int 0, .int 0, .int 0, .null, .int 0, .null, .null, .int 0]) (pc2 := 11) S tyX9 tyX9_ok rfl inX9 u_765 u_766 u_73 (fun j hj => by match j, hj with | 0, _ => rfl | 1, _ => rfl | 2, _ => rfl | 3, _ => rfl | 4, _ => rfl | 5, _ => rfl | 6, _ => rfl | 7, _ => rfl | 8, _ => rfl | 9, _ => rfl | 10, _ => rfl | 11, _ => rfl | 12, _ => rfl | 13, _ => rfl | 14, _ => rfl | 15, _ => rfl | 16, _ => rfl | j + 17, hj => exact absurd hj (by omega)) (Nat.le_of_ble_eq_true rfl) (Nat.le_of_ble_eq_true rfl) dL_law_8 rfl (fun q5 => ?_)
  refine v_to ((wCD G (q1, b3r) v4.1 v4.2.1 v4.2.2.1 v4.2.2.2.1 v4.2.2.2.2.1 v4.2.2.2.2.2.1 v4.2.2.2.2.2.2) ++ (([(q5, .inr (9, [.null, .null, .null, .int 0, .null, .int 0, .null, .int 0, .int 0, .int 0, .int 0, .int 0, .null, .int 0, .null, .null, .int 0]))] : va_W))) 11 [(0, .ref b), (1, .ref q1)] _ [.ref q5] rfl rfl rfl rfl ?_
  refine v_dup (pc2 := 12) S dL_law_11 rfl rfl ?_
  refine v_callI (rt2 := none) (pc2 := 15) (As := []) (rest := [.ref q5]) S (c_X9_init l G q5 _ hw) mf_X9_init u_767 u_768 rfl rfl rfl ⟨rfl, rfl⟩ ⟨Nat.le_of_ble_eq_true rfl, Nat.le_of_ble_eq_true rfl⟩ ⟨Nat.le_of_ble_eq_true rfl, Nat.le_of_ble_eq_true rfl⟩ (Nat.le_of_ble_eq_true rfl) dL_law_12 (frM (wCD G (q1, b3r) v4.1 v4.2.1 v4.2.2.1 v4.2.2.2.1 v4.2.2.2.2.1 v4.2.2.2.2.2.1 v4.2.2.2.2.2.2) [(q5, .inr (9, [.null, .null, .null, .int 0, .null, .int 0, .null, .int 0, .int 0, .int 0, .int 0, .int 0, .null, .int 0, .null, .null, .int 0]))] []) rfl (pv (fun u6 hw => ?_))
  obtain ⟨⟨b7, b7r⟩, v8⟩ := u6
  obtain ⟨hq, hw⟩ := hw
  have hq : b7 = q5 := hq
  subst b7
  refine v_to ((wCD G (q1, b3r) v4.1 v4.2.1 v4.2.2.1 v4.2.2.2.1 v4.2.2.2.2.1 v4.2.2.2.2.2.1 v4.2.2.2.2.2.2) ++ (wMod G (q5, b7r) v8.1 v8.2.1 v8.2.2.1 v8.2.2.2.1 v8.2.2.2.2.1 v8.2.2.2.2.2.1 v8.2.2.2.2.2.2.1 v8.2.2.2.2.2.2.2.1 v8.2.2.2.2.2.2.2.2.1 v8.2.2.2.2.2.2.2.2.2.1 v8.2.2.2.2.2.2.2.2.2.2.1 v8.2.2.2.2.2.2.2.2.2.2.2.1 v8.2.2.2.2.2.2.2.2.2.2.2.2.1 v8.2.2.2.2.2.2.2.2.2.2.2.2.2.1 v8.2.2.2.2.2.2.2.2.2.2.2.2.2.2.1 v8.2.2.2.2.2.2.2.2.2.2.2.2.2.2.2.1 v8.2.2.2.2.2.2.2.2.2.2.2.2.2.2.2.2)) 15 [(0, .ref b), (1, .ref q1)] _ [.ref q5] rfl rfl rfl rfl ?_
  refine v_astore_n (lv2 := [(0, .ref b), (1, .ref q1), (2, .ref q5)]) (pc2 := 16) S dL_law_15 rfl (by decide) [1, 2, 0] rfl rfl ?_
  refine v_iconst (v := 0) (pc2 := 17) S dL_law_16 (by decide) rfl ?_
  refine v_istore_n (lv2 := [(0, .ref b), (1, .ref q1), (2, .ref q5), (3, .int (0 : Int32))]) (pc2 := 18) S dL_law_17 rfl (by decide) [1, 2, 3, 0] rfl rfl ?_
  refine v_widen (k2 := 600000) (n2 := 7302250) (Nat.le_of_ble_eq_true rfl) (Nat.le_of_ble_eq_true rfl) ?_
  obtain ⟨kk, hw⟩ := hw
  exact L18 (q1, b3r) (q5, b7r) kk (0 : Int32) v4 v8 hw
