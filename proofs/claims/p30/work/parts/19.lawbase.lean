/-! THE CLAIM OUT OF ONE WALK OF THE LAW'S BODY. Your part is whole_start (and what it stands on); all else here is the same for every law, but numbers. -/
def R_law : String := "CordDoorsLaw"
def lw_P (b : Addr) (xs : List Int32) (args : Array Value) (s : State) : Prop := args = #[.ref b] ∧ s.IntsAt b xs ∧ xs.length ≤ 260 ∧ (Jvm.Cond.and given_1 narrow_1).before args s = true
/-- what a walk over the start with the record d0 says of its end, said of the start itself -/
theorem lw_closed {s t : State} {o : Outcome} {d0 : Drawn} {L : List Loc} {k n : Nat} (hd0 : s.drawn.sameBut d0 lw_cs) (hv : ∃ v, o = .returned v) (hW : (s.setDrawn d0).WarmedH t.vm) (hs : (s.setDrawn d0).sameButNew ({ t with vm := s.vm } : State) L k n) : State.butDraws s t lw_cs (fun t1 => Framed s o t1 L k n) := by
  have h2 : t.drawn = d0 := congrArg State.drawn hs.1
  refine ⟨⟨hv, hW, State.sameButNew.setDrawn hs s.drawn⟩, ?_, by decide⟩
  rw [h2]
  exact hd0
def lw_Q (_ : Array Value) (s : State) (o : Outcome) (t : State) : Prop := o = .returned (some (.int 1)) ∧ State.butDraws s t lw_cs (fun t1 => Framed s o t1 [] 600000 7302250)
def lw_Z (below : List Frame) (a : Array Value) (s : State) : State → Prop := fun t => ∃ o, t.status = .running ∧ Ended t below o ∧ lw_Q a s o t
/-- the law's own end, with 1 on the stack, nothing written that was there before, its room as the claim has it; d0: the record of draws at this point (at the entry s.drawn: begin with 'refine W.base ?_' and 'have hd0 := Drawn.sameBut.refl s.drawn lw_cs') -/
theorem lw_ret {p : Program} {l : Launch} {e : Env} {s : State} {m : MethodId} {below : List Frame} {meth : Method} {c : Code} {b : Nat} {d0 : Drawn} (hd0 : s.drawn.sameBut d0 lw_cs) (hx : p.tables.exec = Jvm.exec) (hb : c.code = code) (hr : meth.sig.returnType = ret) (hlocks : meth.locks = false) {pc : Nat} {H : Heap} {ls : Array Slot} (hdg : decode code pc = .ok (.ireturn, 1)) : W p l e room_1 (s.setDrawn d0) m #[Value.ref b] below meth c H [] 600000 7302250 (lw_Z below #[Value.ref b] s) (F0 m pc ls [.int 1]) := by
  intro T hT X
  obtain ⟨fs, hret, hrun, hended, hW, hframe⟩ := X.leave (v := some (.int 1)) (hlocks := hlocks) (fun h => by rw [hr] at h; cases h)
  have hmeth' : T.vm.method? m = some meth := X.method'
  refine ⟨T.setFrames fs, ?_, .returned (some (.int 1)), hrun, hended, rfl, lw_closed hd0 ⟨_, rfl⟩ hW hframe⟩
  jvm_step X.here [X.here.top, hx, hb, hdg, hmeth', hr, ret, narrow_b1]
  (try refine ⟨rfl, ?_⟩); (try refine ⟨rfl, ?_⟩)
  first | (intro acts; rw [hret _ acts rfl rfl rfl]) | rw [hret _ _ rfl rfl rfl]
  exact Steps.refl _
/-- what holds at the law's entry: the machine, the code, the tables' words (any of lw_tbl by 'hts w (by decide +kernel)'), the script of L ints xs at the cell b, what the Statement gives of the start (any of its parts by flat_of_before) -/
def lw_At (p : Program) (s : State) (m : MethodId) (meth : Method) (c : Code) (b L : Nat) (xs : Nat → Int32) : Prop :=
  p.tables.exec = Jvm.exec ∧ c.code = code ∧ meth.sig.returnType = ret ∧ c.maxLocals = 20 ∧ s.vm.findClass R_law = some m.cls ∧ (∀ w ∈ lw_tbl, w.before #[Value.ref b] s = true) ∧ va_X b L xs s s.heap ∧ b < s.heap.size ∧ meth.locks = false ∧ (Jvm.Cond.and given_1 narrow_1).before #[Value.ref b] s = true
section LawRows
variable {p : Program} {l : Launch} {e : Env} {R : Room} {s : State} {m : MethodId} {args : Array Value} {below : List Frame} {meth : Method} {c : Code} {G : GG} {nL k n : Nat} {Q : State → Prop} {ws : va_W} {pc pc2 : Nat} {lv : List (Nat × Value)} {st : List Value} {cc : ByteArray} {own : String} {rt : Option FieldType} {b L : Nat} {xs : Nat → Int32}
theorem v_slen (S : Fx p m c cc nL s args own meth rt G (fun q : Nat => s.heap.size ≤ q)) (hX : va_X b L xs s s.heap) (hbl : b < s.heap.size) (hdg : decode cc pc = .ok (.arraylength, 1)) (hp : pc + 1 = pc2) (kk : V p l e R s m args below meth c G (fun q : Nat => s.heap.size ≤ q) nL k n Q ws pc2 lv (.int (Int32.ofNat L) :: st)) : V p l e R s m args below meth c G (fun q : Nat => s.heap.size ≤ q) nL k n Q ws pc lv (.ref b :: st) := by
  subst hp
  exact fun H locs ls hP hD hS hl => va_slen S.1.1 S.1.2.1 hX hbl (Nat.not_le.mpr hbl) hS hdg (kk H locs ls hP hD hS hl)
theorem v_sld (S : Fx p m c cc nL s args own meth rt G (fun q : Nat => s.heap.size ≤ q)) (hX : va_X b L xs s s.heap) (hbl : b < s.heap.size) {i : Int32} (hin : vp_in i L) (hdg : decode cc pc = .ok (.iaload, 1)) (hp : pc + 1 = pc2) (kk : V p l e R s m args below meth c G (fun q : Nat => s.heap.size ≤ q) nL k n Q ws pc2 lv (.int (xs i.toNatClampNeg) :: st)) : V p l e R s m args below meth c G (fun q : Nat => s.heap.size ≤ q) nL k n Q ws pc lv (.int i :: .ref b :: st) := by
  subst hp
  exact fun H locs ls hP hD hS hl => va_sld S.1.1 S.1.2.1 hX hbl (Nat.not_le.mpr hbl) hS hin hdg (kk H locs ls hP hD hS hl)
theorem v_law1 (S : Fx p m c code 20 s #[Value.ref b] own meth ret G (fun q : Nat => s.heap.size ≤ q)) (hdg : decode code pc = .ok (.ireturn, 1)) : V p l e room_1 s m #[Value.ref b] below meth c G (fun q : Nat => s.heap.size ≤ q) 20 600000 7302250 (lw_Z below #[Value.ref b] s) ws pc lv [.int 1] :=
  fun H locs ls hP hD hS hl => va_forget (fun q hq => hS.2.2 q hq) (W.base (lw_ret (Drawn.sameBut.refl s.drawn lw_cs) S.1.1 S.1.2.1 S.2.1 S.2.2.1 hdg))
end LawRows
theorem law_known {s : State} {args : Array Value} (hts : ∀ w ∈ lw_tbl, w.before args s = true) : ∃ G : GG, GK G s := by
  have hub : ∀ w ∈ ub, w.before args s = true := fun w hw => hts w (List.mem_filter.mp hw).1
  have h : ∀ j : Nat, ∃ cI : ClassId × (Nat → Nat), ∀ q : vw_C, vwCl[j]? = some q → u_Kn s q.1 q.2.1 q.2.2 cI.1 cI.2 := by
    intro j
    match j with
    | 0 =>
      obtain ⟨c0, i0, hK⟩ := u_known (C := RX0) (T := TX0) (N := 7) (n := 7) hub inX0 (hts (.instantiable RX0 7) (by decide +kernel))
      exact ⟨(c0, i0), fun q hq => by cases hq; exact hK⟩
    | 1 =>
      obtain ⟨c0, i0, hK⟩ := u_known (C := RX1) (T := TX1) (N := 3) (n := 3) hub inX1 (hts (.instantiable RX1 3) (by decide +kernel))
      exact ⟨(c0, i0), fun q hq => by cases hq; exact hK⟩
    | 2 =>
      obtain ⟨c0, i0, hK⟩ := u_known (C := RX2) (T := TX2) (N := 3) (n := 3) hub inX2 (hts (.instantiable RX2 3) (by decide +kernel))
      exact ⟨(c0, i0), fun q hq => by cases hq; exact hK⟩
    | 3 =>
      obtain ⟨c0, i0, hK⟩ := u_known (C := RX3) (T := TX3) (N := 6) (n := 6) hub inX3 (hts (.instantiable RX3 6) (by decide +kernel))
      exact ⟨(c0, i0), fun q hq => by cases hq; exact hK⟩
    | 4 =>
      obtain ⟨c0, i0, hK⟩ := u_known (C := RX4) (T := TX4) (N := 2) (n := 2) hub inX4 (hts (.instantiable RX4 2) (by decide +kernel))
      exact ⟨(c0, i0), fun q hq => by cases hq; exact hK⟩
    | 5 =>
      obtain ⟨c0, i0, hK⟩ := u_known (C := RX5) (T := TX5) (N := 4) (n := 4) hub inX5 (hts (.instantiable RX5 4) (by decide +kernel))
      exact ⟨(c0, i0), fun q hq => by cases hq; exact hK⟩
    | 6 =>
      obtain ⟨c0, i0, hK⟩ := u_known (C := RX6) (T := TX6) (N := 3) (n := 3) hub inX6 (hts (.instantiable RX6 3) (by decide +kernel))
      exact ⟨(c0, i0), fun q hq => by cases hq; exact hK⟩
    | 7 =>
      obtain ⟨c0, i0, hK⟩ := u_known (C := RX7) (T := TX7) (N := 3) (n := 3) hub inX7 (hts (.instantiable RX7 3) (by decide +kernel))
      exact ⟨(c0, i0), fun q hq => by cases hq; exact hK⟩
    | 8 =>
      obtain ⟨c0, i0, hK⟩ := u_known (C := RX8) (T := TX8) (N := 7) (n := 7) hub inX8 (hts (.instantiable RX8 7) (by decide +kernel))
      exact ⟨(c0, i0), fun q hq => by cases hq; exact hK⟩
    | j + 9 => exact ⟨(0, fun _ => 0), fun q hq => by simp [vwCl] at hq⟩
  obtain ⟨f, hf⟩ := Classical.axiomOfChoice h
  obtain ⟨cI, kI, mI, i1, i2, i3⟩ := Cond.arrayClass_spec (hts (.arrayClass .int) (by decide +kernel))
  obtain ⟨comp, cS, kS, o1, -, o3, o4, o5⟩ := Cond.arrayOver_spec (hts (.arrayOver (.object RX5)) (by decide +kernel))
  refine ⟨((fun j => (f j).1, fun j => (f j).2), cI, cS), fun j q hq => hf j q hq, ?_⟩
  intro j q hq
  match j, hq with
  | 0, hq =>
    cases hq
    exact ⟨fun N z => ⟨(fun k h => by cases h), kI, i2, mI, i3⟩, i1⟩
  | 1, hq =>
    cases hq
    exact ⟨fun N z => ⟨(fun k h => by cases h), kS, o3, comp, o4⟩, kS, comp, o3, o4, o1, o5⟩
  | j + 2, hq => simp at hq
theorem law_enter {p : Program} {e : Env} {s : State} {m : MethodId} {below : List Frame} {meth : Method} {c : Code} (l : Launch) {b L : Nat} {xs : Nat → Int32} (C0 : lw_At p s m meth c b L xs) (hw : ∀ G : GG, Fx p m c code 20 s #[Value.ref b] RL meth ret G (fun q : Nat => s.heap.size ≤ q) → va_X b L xs s s.heap → b < s.heap.size → V p l e room_1 s m #[Value.ref b] below meth c G (fun q : Nat => s.heap.size ≤ q) 20 0 0 (lw_Z below #[Value.ref b] s) [] 0 [(0, .ref b)] []) : W p l e room_1 s m #[Value.ref b] below meth c s.heap [] 0 0 (lw_Z below #[Value.ref b] s) (entryFrame m ([Value.ref b] : List Value).toArray 20) := by
  obtain ⟨hx, hb, hr, hml, hown, hts, hX, hbl, hlocks, hgv⟩ := C0
  obtain ⟨G, hG⟩ := law_known hts
  have hub : ∀ w ∈ ub, w.before #[Value.ref b] s = true := fun w hw => hts w (List.mem_filter.mp hw).1
  have hl := lv_entry ([.ref b]) (n := 20) (Nat.le_of_ble_eq_true rfl)
  rw [lg_entry_eq]
  exact hw G ⟨⟨hx, hb, hml, hown, hub⟩, hr, hlocks, hG, NW.of hts, fun _ h => h⟩ hX hbl s.heap [] _ (fun k q h => by simp at h) ⟨fun i j p q h => by simp at h, fun k q h => by simp at h⟩ va_S.rf hl
def PL {S : Type} (wf : S → va_W) (Q : Int64 → S → Prop) : Option Value → va_W → Prop := fun v w => ∃ (r : Int64) (u : S), v = some (.long r) ∧ w = wf u ∧ Q r u
theorem pl {S : Type} {wf : S → va_W} {Q : Int64 → S → Prop} {P : Option Value → va_W → Prop} (h : ∀ r u, Q r u → P (some (.long r)) (wf u)) : ∀ v w, PL wf Q v w → P v w := by
  rintro v w ⟨r, u, rfl, rfl, hq⟩; exact h r u hq
section LRows
variable {p : Program} {l : Launch} {e : Env} {R : Room} {s : State} {m : MethodId} {args : Array Value} {below : List Frame} {meth : Method} {c : Code} {G : GG} {A : Nat → Prop} {nL k n : Nat} {Q : State → Prop} {ws ws2 : va_W} {pc pc2 : Nat} {lv lv2 : List (Nat × Value)} {st : List Value} {cc : ByteArray} {own : String} {rt : Option FieldType}
theorem v_ldc (S : Fx p m c cc nL s args own meth rt G A) {index : Nat} {v : Int32} (hc : Cond.constant own index v ∈ ub) (hdg : decode cc pc = .ok (.ldc index, 2)) (hp : pc + 2 = pc2) (kk : V p l e R s m args below meth c G A nL k n Q ws pc2 lv (.int v :: st)) : V p l e R s m args below meth c G A nL k n Q ws pc lv (st) := by
  subst hp; exact fun H locs ls hP hD hS hl => lv_ldc S.1.1 S.1.2.1 S.1.2.2.2.1 (S.1.2.2.2.2 _ hc) hdg (kk H locs ls hP hD hS hl)
theorem v_ldc2 (S : Fx p m c cc nL s args own meth rt G A) {index : Nat} {v : Int64} (hc : Cond.constantLong own index v ∈ ub) (hdg : decode cc pc = .ok (.ldc2_w index, 3)) (hp : pc + 3 = pc2) (kk : V p l e R s m args below meth c G A nL k n Q ws pc2 lv (.long v :: st)) : V p l e R s m args below meth c G A nL k n Q ws pc lv (st) := by
  subst hp; exact fun H locs ls hP hD hS hl => lv_ldc2 S.1.1 S.1.2.1 S.1.2.2.2.1 (S.1.2.2.2.2 _ hc) hdg (kk H locs ls hP hD hS hl)
theorem v_i2l (S : Fx p m c cc nL s args own meth rt G A) {x : Int32} (hdg : decode cc pc = .ok (.i2l, 1)) (hp : pc + 1 = pc2) (kk : V p l e R s m args below meth c G A nL k n Q ws pc2 lv (.long (Int32.toInt64 x) :: st)) : V p l e R s m args below meth c G A nL k n Q ws pc lv (.int x :: st) := by
  subst hp; exact fun H locs ls hP hD hS hl => lv_i2l S.1.1 S.1.2.1 hdg rfl (kk H locs ls hP hD hS hl)
theorem v_ladd (S : Fx p m c cc nL s args own meth rt G A) {x y : Int64} (hdg : decode cc pc = .ok (.ladd, 1)) (hp : pc + 1 = pc2) (kk : V p l e R s m args below meth c G A nL k n Q ws pc2 lv (.long (x + y) :: st)) : V p l e R s m args below meth c G A nL k n Q ws pc lv (.long y :: .long x :: st) := by
  subst hp; exact fun H locs ls hP hD hS hl => lv_ladd S.1.1 S.1.2.1 hdg (kk H locs ls hP hD hS hl)
theorem v_lmul (S : Fx p m c cc nL s args own meth rt G A) {x y : Int64} (hdg : decode cc pc = .ok (.lmul, 1)) (hp : pc + 1 = pc2) (kk : V p l e R s m args below meth c G A nL k n Q ws pc2 lv (.long (x * y) :: st)) : V p l e R s m args below meth c G A nL k n Q ws pc lv (.long y :: .long x :: st) := by
  subst hp; exact fun H locs ls hP hD hS hl => lv_lmul S.1.1 S.1.2.1 hdg (kk H locs ls hP hD hS hl)
theorem v_lcmp (S : Fx p m c cc nL s args own meth rt G A) {x y : Int64} (hdg : decode cc pc = .ok (.lcmp, 1)) (hp : pc + 1 = pc2) (kk : V p l e R s m args below meth c G A nL k n Q ws pc2 lv (.int (lg_cmp x y) :: st)) : V p l e R s m args below meth c G A nL k n Q ws pc lv (.long y :: .long x :: st) := by
  subst hp; exact fun H locs ls hP hD hS hl => W.lcmp S.1.1 S.1.2.1 hdg (kk H locs ls hP hD hS hl)
theorem v_dconst1 (S : Fx p m c cc nL s args own meth rt G A)  (hdg : decode cc pc = .ok (.dconst 1, 1)) (hp : pc + 1 = pc2) (kk : V p l e R s m args below meth c G A nL k n Q ws pc2 lv (.double FP.dconst1 :: st)) : V p l e R s m args below meth c G A nL k n Q ws pc lv (st) := by
  subst hp; exact fun H locs ls hP hD hS hl => lv_dconst1 S.1.1 S.1.2.1 hdg (kk H locs ls hP hD hS hl)
theorem v_lload_n (S : Fx p m c cc nL s args own meth rt G A) {i : Fin 4} {j : Nat} {x : Int64} (k0 : Nat) (hdg : decode cc pc = .ok (.lload_n i, 1)) (hi : (i : Nat) = j) (hk : lv[k0]? = some (j, .long x)) (hp : pc + 1 = pc2) (kk : V p l e R s m args below meth c G A nL k n Q ws pc2 lv (.long x :: st)) : V p l e R s m args below meth c G A nL k n Q ws pc lv (st) := by
  subst hp; exact fun H locs ls hP hD hS hl => lv_lload_n S.1.1 S.1.2.1 hdg hi (lv_at hl k0 hk) (kk H locs ls hP hD hS hl)
theorem v_lload (S : Fx p m c cc nL s args own meth rt G A) {j : Nat} {x : Int64} (k0 : Nat) (hdg : decode cc pc = .ok (.lload j, 2)) (hk : lv[k0]? = some (j, .long x)) (hp : pc + 2 = pc2) (kk : V p l e R s m args below meth c G A nL k n Q ws pc2 lv (.long x :: st)) : V p l e R s m args below meth c G A nL k n Q ws pc lv (st) := by
  subst hp; exact fun H locs ls hP hD hS hl => lv_lload S.1.1 S.1.2.1 hdg (lv_at hl k0 hk) (kk H locs ls hP hD hS hl)
theorem v_lstore_n (S : Fx p m c cc nL s args own meth rt G A) {i : Fin 4} {j : Nat} {x : Int64} (hdg : decode cc pc = .ok (.lstore_n i, 1)) (hi : (i : Nat) = j) (hn : j + 1 < nL) (ks : List Nat) (h2 : lv_pick ((j, Value.long x) :: lv.filter (fun q => !(q.1 == j) && (!(q.1 == j + 1) && !(q.1 + 1 == j && q.2.category == 2)))) ks = lv2) (hp : pc + 1 = pc2) (kk : V p l e R s m args below meth c G A nL k n Q ws pc2 lv2 st) : V p l e R s m args below meth c G A nL k n Q ws pc lv (.long x :: st) := by
  subst hp; exact fun H locs ls hP hD hS hl => lv_lstore_n S.1.1 S.1.2.1 hdg hi hl hn rfl (fun ls hl => kk H locs ls hP hD hS (lv_sub hl ks h2))
theorem v_lstore (S : Fx p m c cc nL s args own meth rt G A) {j : Nat} {x : Int64} (hdg : decode cc pc = .ok (.lstore j, 2))  (hn : j + 1 < nL) (ks : List Nat) (h2 : lv_pick ((j, Value.long x) :: lv.filter (fun q => !(q.1 == j) && (!(q.1 == j + 1) && !(q.1 + 1 == j && q.2.category == 2)))) ks = lv2) (hp : pc + 2 = pc2) (kk : V p l e R s m args below meth c G A nL k n Q ws pc2 lv2 st) : V p l e R s m args below meth c G A nL k n Q ws pc lv (.long x :: st) := by
  subst hp; exact fun H locs ls hP hD hS hl => lv_lstore S.1.1 S.1.2.1 hdg hl hn rfl (fun ls hl => kk H locs ls hP hD hS (lv_sub hl ks h2))
theorem v_nml {x : Int64} (kk : ∀ y : Int64, y = x → V p l e R s m args below meth c G A nL k n Q ws pc lv (.long y :: st)) : V p l e R s m args below meth c G A nL k n Q ws pc lv (.long x :: st) := kk x rfl
theorem v_lret {C : va_W} {sz : Nat} {Pq : Option Value → va_W → Prop} {v : Int64} (S : Fx p m c cc nL s args own meth (some .long) G (va_A C sz)) (hq : Pq (some (.long v)) ws) (hdg : decode cc pc = .ok (.lreturn, 1)) : V p l e R s m args below meth c G (va_A C sz) nL k n (MQ below (EQ G C sz Pq) args s k n (va_A C sz)) ws pc lv [.long v] :=
  fun H locs ls hP hD hS hl => W.lret (v := v) S.1.1 S.1.2.1 S.2.1 (fun t ht hW => ⟨⟨_, ws, rfl, hq, by rw [ht]; exact hP, va_K.moved hW.alike S.2.2.2.1, hD⟩, hS.F ht⟩) hS.2.2 hdg (hlocks := S.2.2.1)
theorem v_slenA {bX LX : Nat} {xs : Nat → Int32} (S : Fx p m c cc nL s args own meth rt G A) (hX : va_X bX LX xs s s.heap) (hbl : bX < s.heap.size) (hbA : ¬ A bX) (hdg : decode cc pc = .ok (.arraylength, 1)) (hp : pc + 1 = pc2) (kk : V p l e R s m args below meth c G A nL k n Q ws pc2 lv (.int (Int32.ofNat LX) :: st)) : V p l e R s m args below meth c G A nL k n Q ws pc lv (.ref bX :: st) := by
  subst hp
  exact fun H locs ls hP hD hS hl => va_slen S.1.1 S.1.2.1 hX hbl hbA hS hdg (kk H locs ls hP hD hS hl)
theorem v_sldA {bX LX : Nat} {xs : Nat → Int32} (S : Fx p m c cc nL s args own meth rt G A) (hX : va_X bX LX xs s s.heap) (hbl : bX < s.heap.size) (hbA : ¬ A bX) {i : Int32} (hin : vp_in i LX) (hdg : decode cc pc = .ok (.iaload, 1)) (hp : pc + 1 = pc2) (kk : V p l e R s m args below meth c G A nL k n Q ws pc2 lv (.int (xs i.toNatClampNeg) :: st)) : V p l e R s m args below meth c G A nL k n Q ws pc lv (.int i :: .ref bX :: st) := by
  subst hp
  exact fun H locs ls hP hD hS hl => va_sld S.1.1 S.1.2.1 hX hbl hbA hS hin hdg (kk H locs ls hP hD hS hl)
/-- a contract of a method that reads the script -/
def ConX (l : Launch) (G : GG) (bX LX : Nat) (xs : Nat → Int32) (y : MethodName) (b : ByteArray) (nL : Nat) (rt : Option FieldType) (rm : Room) (av : List Value) (Pq : Option Value → va_W → Prop) : Prop :=
  ∀ sz : Nat, Met l y (.code y b nL rt :: ub) rm (va_Pc av (fun U => U.heap.size = sz ∧ va_P G.1 vwCl [] U.heap ∧ GK G U ∧ va_D (fun _ => True) [] ∧ NW U ∧ va_X bX LX xs U U.heap ∧ bX < U.heap.size)) (EQ G [] sz Pq) 0 0 (va_A [] sz)
theorem con_callX {av : List Value} {C Rs : va_W} {wf : va_W → va_W} {Pq : Option Value → va_W → Prop} {mc ms : Nat} {st0 rest : List Value} (S : Fx p m c cc nL s args own meth rt G A)
    (hrun : ∀ (H : Heap) (locs : List Loc) (ls : Array Slot), va_P G.1 vwCl C H → va_D (fun _ => True) C → ls.size = nL → va_S A s.heap H locs → va_Run p l e R s m args below meth c H locs k n mc ms (F0 m pc ls st0) rest (EQ G C H.size Pq av.toArray) (va_A C H.size))
    (hw : FrM ws C Rs wf) (hp : pc + 3 = pc2) (kk : ∀ v w, Pq v w → V p l e R s m args below meth c G A nL (k + mc) (n + ms) Q (wf w) pc2 lv (v.toList ++ rest)) : V p l e R s m args below meth c G A nL k n Q ws pc lv st0 := by
  subst hp
  intro H locs ls hP hD hS hl
  have hPp : va_P G.1 vwCl (C ++ Rs) H := va_P.perm hw.1 hP
  have hDp : va_D A (C ++ Rs) := va_D.perm hw.1 hD
  have hPc : va_P G.1 vwCl C H := va_P.left hPp
  have hDc := va_D.left hDp
  have hPr : va_P G.1 vwCl Rs H := va_P.right hPp
  have hDr : va_D A Rs := va_D.right hDp
  have hF : ∀ q, va_A C H.size q → A q := by
    rintro q (⟨j, x, hx⟩ | hq)
    · exact hDc.2 j (q, x) hx
    · exact S.2.2.2.2.2 q (Nat.le_trans hS.1 hq)
  have hr := hrun H locs ls hPc (hDc.weaken (fun _ _ _ _ => trivial)) hl.1 hS
  intro T hT X
  obtain ⟨v, st₀, t, T', L, h0, X', hL, e1, e2, ⟨⟨v', w, hv, hq, hP1, hK1, hD1⟩, hz, hkeep⟩, hst⟩ := hr T hT X
  cases hv
  rw [h0] at hz hkeep
  rw [← e1] at hP1 hz hkeep
  have hap : ∀ (i : Nat) (x : Nat × va_E), Rs[i]? = some x → x.1 < H.size ∧ ¬ va_A C H.size x.1 := by
    intro i x hx
    have hlt := (hPr i x hx).lt
    refine ⟨hlt, ?_⟩
    rintro (⟨j, y2, hy⟩ | hq)
    · exact va_D.apart hDp hy hx rfl
    · omega
  have hPr1 : va_P G.1 vwCl Rs T'.heap := hPr.kept (fun i x hx => hkeep x.1 (hap i x hx).1 (hap i x hx).2)
  have hD2 : va_D A (w ++ Rs) := va_D.app (hD1.weaken (fun _ x _ h => hF x.1 h)) hDr (fun i j x y2 hx hy hxy => (hap j y2 hy).2 (by rw [← hxy]; exact hD1.2 i x hx))
  obtain ⟨t2, a1, b1⟩ := kk v w hq T'.heap (locs ++ L) ls (va_P.perm (hw.2 w) (va_P.app hP1 hPr1)) (va_D.perm (hw.2 w) hD2)
    ⟨Nat.le_trans hS.1 hz, fun q h1 h2 => by rw [hkeep q (Nat.lt_of_lt_of_le h1 hS.1) (fun z => h2 (hF q z))]; exact hS.2.1 q h1 h2, fun q hq2 => (List.mem_append.mp hq2).elim (hS.2.2 q) (fun h => hF _ (hL q h))⟩ hl T' rfl X'
  exact ⟨t2, hst t2 a1, b1⟩
theorem v_callX {bX LX : Nat} {xs : Nat → Int32} {y : MethodName} {b : ByteArray} {nL2 : Nat} {rt2 : Option FieldType} {rm2 : Room} {As : List Value} {Pq : Option Value → va_W → Prop} {index N : Nat} {st0 rest : List Value} (S : Fx p m c cc nL s args own meth rt G A) (hX : va_X bX LX xs s s.heap) (hbl : bX < s.heap.size) (hbA : ¬ A bX) (hC : ConX l G bX LX xs y b nL2 rt2 rm2 As Pq) (F : MF y b nL2 rt2 N) (hlink : Cond.methodLink own index y ∈ ub) (hstat : Cond.static y ∈ ub) (hst0 : st0 = As.reverse ++ rest) (hn : As.length = N) (hm : rm2.cells = 0 ∧ rm2.slots = 0) (hR : rm2.frames + 1 ≤ R.frames ∧ 8 + (nL2 + 11) + rm2.locals ≤ R.locals) (hcs : k + 0 ≤ R.cells ∧ n + 0 ≤ R.slots) (hcat : (rest.map fun v => v.category).sum ≤ 8) (hdg : decode cc pc = .ok (.invokestatic index, 3))
    (hp : pc + 3 = pc2) (kk : ∀ v w, Pq v w → V p l e R s m args below meth c G A nL (k + 0) (n + 0) Q (w ++ ws) pc2 lv (v.toList ++ rest)) : V p l e R s m args below meth c G A nL k n Q ws pc lv st0 := by
  subst hst0
  exact con_callX S (av := As) (C := []) (Rs := ws) (wf := fun w => w ++ ws) (fun H locs ls hP hD hsz hS => va_runS S.1 (hC H.size) (⟨callB_of N S.1.2.2.2.2 (ub_cons F.1) rfl hm.1 hm.2 (S.1.2.2.2.2 _ F.2.1) (S.1.2.2.2.2 _ hlink) F.2.2 hR, S.1.2.2.2.2 _ hstat⟩) ⟨fun a U g mk q => ⟨q.1, q.2.1, q.2.2.1, va_K.moved (u := U) (U := U.calling g mk a) (Vm.Alike.refl U.vm) q.2.2.2.1, q.2.2.2.2.1, q.2.2.2.2.2.1.calling, va_X.moved (u := U) (U := U.calling g mk a) (Vm.Alike.refl U.vm) q.2.2.2.2.2.2.1, q.2.2.2.2.2.2.2⟩, fun U hU hW => ⟨rfl, by rw [hU], by rw [hU]; exact hP, va_K.moved hW.alike S.2.2.2.1, hD, NW.warm hW S.2.2.2.2.1, by rw [hU]; exact (va_X.moved hW.alike hX).kept (hS.2.1 bX hbl hbA), by rw [hU]; exact Nat.lt_of_lt_of_le hbl hS.1⟩⟩ rfl hn hsz rfl (lv_room hcat) hdg hcs) ⟨List.Perm.refl _, fun w => List.Perm.refl _⟩ hp kk
end LRows
theorem con_ofX {l : Launch} {G : GG} {y : MethodName} {b : ByteArray} {nL : Nat} {rt : Option FieldType} {rm : Room} {av : List Value} {Pq : Option Value → va_W → Prop} {bX LX : Nat} {xs : Nat → Int32} (own : String) (ho : y.cls = own) (hpn : plainName y.cls = true) (lv0 : List (Nat × Value)) (hlv : lv_args 0 av = lv0) (hle : (lg_sl av).length ≤ nL)
    (body : ∀ (p : Program) (e : Env) (s : State) (m : MethodId) (args : Array Value) (below : List Frame) (meth : Method) (c : Code), Fx p m c b nL s args own meth rt G (va_A [] s.heap.size) → va_X bX LX xs s s.heap → bX < s.heap.size → V p l e rm s m args below meth c G (va_A [] s.heap.size) nL 0 0 (MQ below (EQ G [] s.heap.size Pq) args s 0 0 (va_A [] s.heap.size)) [] 0 lv0 []) : ConX l G bX LX xs y b nL rt rm av Pq := by
  intro sz
  refine Met.ofW (cc := b) (maxL := nL) (ret := rt) hpn rfl ?_
  intro p e s m args below meth c s₁ B hml hv
  obtain ⟨rfl, hsz, hP, hK, hD0, hN, hX, hbl⟩ := hv
  subst hsz
  have hts := atoms_spec (ws := .code y b nL rt :: ub) B.pre
  have hl := lv_entry av (n := nL) hle
  rw [lg_entry_eq]
  rw [hlv] at hl
  exact body p e s m av.toArray below meth c ⟨⟨B.exec, B.bytes, hml, by rw [← ho]; exact findClass_of_methodNamed B.named, fun w h => hts w (List.mem_cons_of_mem _ h)⟩, B.returns, B.notSynchronized, hK, hN, fun q h => Or.inr h⟩ hX hbl s.heap [] _ hP (hD0.self) va_S.rf hl
theorem not_A0 {sz q : Nat} (h : q < sz) : ¬ va_A [] sz q := by
  rintro (⟨k, e, h1⟩ | h1)
  · simp at h1
  · omega
theorem u_20 : (Cond.initialized RX8) ∈ ub := ub_mem 20 (by decide +kernel) rfl
theorem u_33 : (Cond.classLink RL 15 RX8) ∈ ub := ub_mem 33 (by decide +kernel) rfl
theorem u_34 : (Cond.instantiable RX8 7) ∈ ub := ub_mem 34 (by decide +kernel) rfl
theorem u_35 : (Cond.methodLink RL 107 yX8_init) ∈ ub := ub_mem 35 (by decide +kernel) rfl
theorem u_36 : (Cond.instanceMethod yX8_init) ∈ ub := ub_mem 36 (by decide +kernel) rfl
theorem u_252 : (Cond.methodLink RL 24 yX8_guest) ∈ ub := ub_mem 252 (by decide +kernel) rfl
theorem u_253 : (Cond.instanceMethod yX8_guest) ∈ ub := ub_mem 253 (by decide +kernel) rfl
theorem u_254 : (Cond.selects RX8 yX8_guest yX8_guest) ∈ ub := ub_mem 254 (by decide +kernel) rfl
theorem u_295 : (Cond.methodLink RL 74 yX8_can) ∈ ub := ub_mem 295 (by decide +kernel) rfl
theorem u_296 : (Cond.instanceMethod yX8_can) ∈ ub := ub_mem 296 (by decide +kernel) rfl
theorem u_297 : (Cond.selects RX8 yX8_can yX8_can) ∈ ub := ub_mem 297 (by decide +kernel) rfl
theorem u_317 : (Cond.methodLink RL 77 yX8_deeds) ∈ ub := ub_mem 317 (by decide +kernel) rfl
theorem u_318 : (Cond.instanceMethod yX8_deeds) ∈ ub := ub_mem 318 (by decide +kernel) rfl
theorem u_319 : (Cond.selects RX8 yX8_deeds yX8_deeds) ∈ ub := ub_mem 319 (by decide +kernel) rfl
theorem u_398 : (Cond.methodLink RL 14 yX8_count) ∈ ub := ub_mem 398 (by decide +kernel) rfl
theorem u_399 : (Cond.instanceMethod yX8_count) ∈ ub := ub_mem 399 (by decide +kernel) rfl
theorem u_400 : (Cond.selects RX8 yX8_count yX8_count) ∈ ub := ub_mem 400 (by decide +kernel) rfl
theorem u_424 : (Cond.methodLink RL 108 yX8_undo) ∈ ub := ub_mem 424 (by decide +kernel) rfl
theorem u_425 : (Cond.instanceMethod yX8_undo) ∈ ub := ub_mem 425 (by decide +kernel) rfl
theorem u_426 : (Cond.selects RX8 yX8_undo yX8_undo) ∈ ub := ub_mem 426 (by decide +kernel) rfl
theorem u_460 : (Cond.methodLink RL 117 yX8_save) ∈ ub := ub_mem 460 (by decide +kernel) rfl
theorem u_461 : (Cond.instanceMethod yX8_save) ∈ ub := ub_mem 461 (by decide +kernel) rfl
theorem u_462 : (Cond.selects RX8 yX8_save yX8_save) ∈ ub := ub_mem 462 (by decide +kernel) rfl
theorem u_465 : (Cond.methodLink RL 111 yX8_restore) ∈ ub := ub_mem 465 (by decide +kernel) rfl
theorem u_466 : (Cond.instanceMethod yX8_restore) ∈ ub := ub_mem 466 (by decide +kernel) rfl
theorem u_467 : (Cond.selects RX8 yX8_restore yX8_restore) ∈ ub := ub_mem 467 (by decide +kernel) rfl
theorem u_473 : (Cond.methodLink RL 120 yL_cell) ∈ ub := ub_mem 473 (by decide +kernel) rfl
theorem u_474 : (Cond.static yL_cell) ∈ ub := ub_mem 474 (by decide +kernel) rfl
theorem u_476 : (Cond.constant RL 7 (812496072)) ∈ ub := ub_mem 476 (by decide +kernel) rfl
theorem u_477 : (Cond.constant RL 8 (74017)) ∈ ub := ub_mem 477 (by decide +kernel) rfl
theorem u_478 : (Cond.constant RL 9 (2147483647)) ∈ ub := ub_mem 478 (by decide +kernel) rfl
theorem u_479 : (Cond.methodLink RL 99 yL_seen) ∈ ub := ub_mem 479 (by decide +kernel) rfl
theorem u_480 : (Cond.static yL_seen) ∈ ub := ub_mem 480 (by decide +kernel) rfl
theorem u_482 : (Cond.constantLong RL 10 (191)) ∈ ub := ub_mem 482 (by decide +kernel) rfl
theorem u_483 : (Cond.constantLong RL 12 (31)) ∈ ub := ub_mem 483 (by decide +kernel) rfl
theorem u_484 : (Cond.methodLink RL 20 yX8_door) ∈ ub := ub_mem 484 (by decide +kernel) rfl
theorem u_485 : (Cond.instanceMethod yX8_door) ∈ ub := ub_mem 485 (by decide +kernel) rfl
theorem u_486 : (Cond.selects RX8 yX8_door yX8_door) ∈ ub := ub_mem 486 (by decide +kernel) rfl
theorem u_506 : (Cond.methodLink RL 132 yL_areDoors) ∈ ub := ub_mem 506 (by decide +kernel) rfl
theorem u_507 : (Cond.static yL_areDoors) ∈ ub := ub_mem 507 (by decide +kernel) rfl
theorem u_509 : (Cond.methodLink RL 27 yL_size) ∈ ub := ub_mem 509 (by decide +kernel) rfl
theorem u_510 : (Cond.static yL_size) ∈ ub := ub_mem 510 (by decide +kernel) rfl
theorem u_512 : (Cond.methodLink RL 32 yX8_whyNot) ∈ ub := ub_mem 512 (by decide +kernel) rfl
theorem u_513 : (Cond.instanceMethod yX8_whyNot) ∈ ub := ub_mem 513 (by decide +kernel) rfl
theorem u_514 : (Cond.selects RX8 yX8_whyNot yX8_whyNot) ∈ ub := ub_mem 514 (by decide +kernel) rfl
theorem u_517 : (Cond.methodLink RL 35 yX8_tightness) ∈ ub := ub_mem 517 (by decide +kernel) rfl
theorem u_518 : (Cond.instanceMethod yX8_tightness) ∈ ub := ub_mem 518 (by decide +kernel) rfl
theorem u_519 : (Cond.selects RX8 yX8_tightness yX8_tightness) ∈ ub := ub_mem 519 (by decide +kernel) rfl
theorem u_521 : (Cond.methodLink RL 136 yL_areHalls) ∈ ub := ub_mem 521 (by decide +kernel) rfl
theorem u_522 : (Cond.static yL_areHalls) ∈ ub := ub_mem 522 (by decide +kernel) rfl
theorem u_524 : (Cond.methodLink RL 39 yX8_hall) ∈ ub := ub_mem 524 (by decide +kernel) rfl
theorem u_525 : (Cond.instanceMethod yX8_hall) ∈ ub := ub_mem 525 (by decide +kernel) rfl
theorem u_526 : (Cond.selects RX8 yX8_hall yX8_hall) ∈ ub := ub_mem 526 (by decide +kernel) rfl
theorem u_537 : (Cond.methodLink RL 114 yL_refuses) ∈ ub := ub_mem 537 (by decide +kernel) rfl
theorem u_538 : (Cond.static yL_refuses) ∈ ub := ub_mem 538 (by decide +kernel) rfl
theorem u_540 : (Cond.methodLink RL 103 yL_refusesAny) ∈ ub := ub_mem 540 (by decide +kernel) rfl
theorem u_541 : (Cond.static yL_refusesAny) ∈ ub := ub_mem 541 (by decide +kernel) rfl
theorem u_543 : (Cond.methodLink RL 42 yX8_open) ∈ ub := ub_mem 543 (by decide +kernel) rfl
theorem u_544 : (Cond.instanceMethod yX8_open) ∈ ub := ub_mem 544 (by decide +kernel) rfl
theorem u_545 : (Cond.selects RX8 yX8_open yX8_open) ∈ ub := ub_mem 545 (by decide +kernel) rfl
theorem u_572 : (Cond.methodLink RL 45 yX8_shut) ∈ ub := ub_mem 572 (by decide +kernel) rfl
theorem u_573 : (Cond.instanceMethod yX8_shut) ∈ ub := ub_mem 573 (by decide +kernel) rfl
theorem u_574 : (Cond.selects RX8 yX8_shut yX8_shut) ∈ ub := ub_mem 574 (by decide +kernel) rfl
theorem u_593 : (Cond.methodLink RL 48 yX8_cord) ∈ ub := ub_mem 593 (by decide +kernel) rfl
theorem u_594 : (Cond.instanceMethod yX8_cord) ∈ ub := ub_mem 594 (by decide +kernel) rfl
theorem u_595 : (Cond.selects RX8 yX8_cord yX8_cord) ∈ ub := ub_mem 595 (by decide +kernel) rfl
theorem u_605 : (Cond.methodLink RL 52 yX8_join) ∈ ub := ub_mem 605 (by decide +kernel) rfl
theorem u_606 : (Cond.instanceMethod yX8_join) ∈ ub := ub_mem 606 (by decide +kernel) rfl
theorem u_607 : (Cond.selects RX8 yX8_join yX8_join) ∈ ub := ub_mem 607 (by decide +kernel) rfl
theorem u_610 : (Cond.methodLink RL 56 yX8_keys) ∈ ub := ub_mem 610 (by decide +kernel) rfl
theorem u_611 : (Cond.instanceMethod yX8_keys) ∈ ub := ub_mem 611 (by decide +kernel) rfl
theorem u_612 : (Cond.selects RX8 yX8_keys yX8_keys) ∈ ub := ub_mem 612 (by decide +kernel) rfl
theorem u_614 : (Cond.methodLink RL 59 yX8_draft) ∈ ub := ub_mem 614 (by decide +kernel) rfl
theorem u_615 : (Cond.instanceMethod yX8_draft) ∈ ub := ub_mem 615 (by decide +kernel) rfl
theorem u_616 : (Cond.selects RX8 yX8_draft yX8_draft) ∈ ub := ub_mem 616 (by decide +kernel) rfl
theorem u_618 : (Cond.methodLink RL 62 yX8_guestOpens) ∈ ub := ub_mem 618 (by decide +kernel) rfl
theorem u_619 : (Cond.instanceMethod yX8_guestOpens) ∈ ub := ub_mem 619 (by decide +kernel) rfl
theorem u_620 : (Cond.selects RX8 yX8_guestOpens yX8_guestOpens) ∈ ub := ub_mem 620 (by decide +kernel) rfl
theorem u_626 : (Cond.methodLink RL 65 yX8_guestShuts) ∈ ub := ub_mem 626 (by decide +kernel) rfl
theorem u_627 : (Cond.instanceMethod yX8_guestShuts) ∈ ub := ub_mem 627 (by decide +kernel) rfl
theorem u_628 : (Cond.selects RX8 yX8_guestShuts yX8_guestShuts) ∈ ub := ub_mem 628 (by decide +kernel) rfl
theorem u_638 : (Cond.methodLink RL 68 yX8_walk) ∈ ub := ub_mem 638 (by decide +kernel) rfl
theorem u_639 : (Cond.instanceMethod yX8_walk) ∈ ub := ub_mem 639 (by decide +kernel) rfl
theorem u_640 : (Cond.selects RX8 yX8_walk yX8_walk) ∈ ub := ub_mem 640 (by decide +kernel) rfl
theorem u_647 : (Cond.methodLink RL 71 yX8_together) ∈ ub := ub_mem 647 (by decide +kernel) rfl
theorem u_648 : (Cond.instanceMethod yX8_together) ∈ ub := ub_mem 648 (by decide +kernel) rfl
theorem u_649 : (Cond.selects RX8 yX8_together yX8_together) ∈ ub := ub_mem 649 (by decide +kernel) rfl
theorem u_659 : (Cond.methodLink RL 80 yX8_ifOpened) ∈ ub := ub_mem 659 (by decide +kernel) rfl
theorem u_660 : (Cond.instanceMethod yX8_ifOpened) ∈ ub := ub_mem 660 (by decide +kernel) rfl
theorem u_661 : (Cond.selects RX8 yX8_ifOpened yX8_ifOpened) ∈ ub := ub_mem 661 (by decide +kernel) rfl
theorem u_665 : (Cond.methodLink RL 83 yX8_why) ∈ ub := ub_mem 665 (by decide +kernel) rfl
theorem u_666 : (Cond.instanceMethod yX8_why) ∈ ub := ub_mem 666 (by decide +kernel) rfl
theorem u_667 : (Cond.selects RX8 yX8_why yX8_why) ∈ ub := ub_mem 667 (by decide +kernel) rfl
theorem u_673 : (Cond.methodLink RL 86 yX8_append) ∈ ub := ub_mem 673 (by decide +kernel) rfl
theorem u_674 : (Cond.instanceMethod yX8_append) ∈ ub := ub_mem 674 (by decide +kernel) rfl
theorem u_675 : (Cond.selects RX8 yX8_append yX8_append) ∈ ub := ub_mem 675 (by decide +kernel) rfl
theorem u_681 : (Cond.methodLink RL 89 yX8_clear) ∈ ub := ub_mem 681 (by decide +kernel) rfl
theorem u_682 : (Cond.instanceMethod yX8_clear) ∈ ub := ub_mem 682 (by decide +kernel) rfl
theorem u_683 : (Cond.selects RX8 yX8_clear yX8_clear) ∈ ub := ub_mem 683 (by decide +kernel) rfl
theorem u_689 : (Cond.methodLink RL 93 yX8_run) ∈ ub := ub_mem 689 (by decide +kernel) rfl
theorem u_690 : (Cond.instanceMethod yX8_run) ∈ ub := ub_mem 690 (by decide +kernel) rfl
theorem u_691 : (Cond.selects RX8 yX8_run yX8_run) ∈ ub := ub_mem 691 (by decide +kernel) rfl
theorem u_743 : (Cond.methodLink RL 96 yX8_fault) ∈ ub := ub_mem 743 (by decide +kernel) rfl
theorem u_744 : (Cond.instanceMethod yX8_fault) ∈ ub := ub_mem 744 (by decide +kernel) rfl
theorem u_745 : (Cond.selects RX8 yX8_fault yX8_fault) ∈ ub := ub_mem 745 (by decide +kernel) rfl
theorem u_747 : (Cond.methodLink RL 124 yL_act) ∈ ub := ub_mem 747 (by decide +kernel) rfl
theorem u_748 : (Cond.static yL_act) ∈ ub := ub_mem 748 (by decide +kernel) rfl
theorem u_750 : (Cond.methodLink RL 128 yL_isDeed) ∈ ub := ub_mem 750 (by decide +kernel) rfl
theorem u_751 : (Cond.static yL_isDeed) ∈ ub := ub_mem 751 (by decide +kernel) rfl
set_option maxRecDepth 100000 in
theorem mf_L_act : MF yL_act cL_act 16 (some .int) 2 := ⟨ub_mem 749 rfl rfl, ub_mem 19 (by decide +kernel) rfl, by decide +kernel⟩
set_option maxRecDepth 100000 in
theorem mf_L_areDoors : MF yL_areDoors cL_areDoors 15 (some .boolean) 1 := ⟨ub_mem 508 rfl rfl, ub_mem 19 (by decide +kernel) rfl, by decide +kernel⟩
theorem mf_L_areHalls : MF yL_areHalls cL_areHalls 10 (some .boolean) 1 := ⟨ub_mem 523 (by decide +kernel) rfl, ub_mem 19 (by decide +kernel) rfl, by decide +kernel⟩
theorem mf_L_cell : MF yL_cell cL_cell 2 (some .int) 2 := ⟨ub_mem 475 (by decide +kernel) rfl, ub_mem 19 (by decide +kernel) rfl, by decide +kernel⟩
theorem mf_L_isDeed : MF yL_isDeed cL_isDeed 1 (some .boolean) 1 := ⟨ub_mem 752 (by decide +kernel) rfl, ub_mem 19 (by decide +kernel) rfl, by decide +kernel⟩
theorem mf_L_refuses : MF yL_refuses cL_refuses 5 (some .boolean) 2 := ⟨ub_mem 539 (by decide +kernel) rfl, ub_mem 19 (by decide +kernel) rfl, by decide +kernel⟩
set_option maxRecDepth 100000 in
theorem mf_L_refusesAny : MF yL_refusesAny cL_refusesAny 8 (some .boolean) 2 := ⟨ub_mem 542 rfl rfl, ub_mem 19 (by decide +kernel) rfl, by decide +kernel⟩
theorem mf_L_seen : MF yL_seen cL_seen 4 (some .long) 1 := ⟨ub_mem 481 (by decide +kernel) rfl, ub_mem 19 (by decide +kernel) rfl, by decide +kernel⟩
theorem mf_L_size : MF yL_size cL_size 3 (some .int) 1 := ⟨ub_mem 511 (by decide +kernel) rfl, ub_mem 19 (by decide +kernel) rfl, by decide +kernel⟩
theorem mf_X8_append : MF yX8_append cX8_append 2 (some .int) 1 := ⟨ub_mem 676 (by decide +kernel) rfl, ub_mem 20 (by decide +kernel) rfl, by decide +kernel⟩
theorem mf_X8_can : MF yX8_can cX8_can 2 (some .int) 1 := ⟨ub_mem 298 (by decide +kernel) rfl, ub_mem 20 (by decide +kernel) rfl, by decide +kernel⟩
theorem mf_X8_clear : MF yX8_clear cX8_clear 1 (some .int) 0 := ⟨ub_mem 684 (by decide +kernel) rfl, ub_mem 20 (by decide +kernel) rfl, by decide +kernel⟩
theorem mf_X8_cord : MF yX8_cord cX8_cord 4 (some .int) 3 := ⟨ub_mem 596 (by decide +kernel) rfl, ub_mem 20 (by decide +kernel) rfl, by decide +kernel⟩
theorem mf_X8_count : MF yX8_count cX8_count 4 (some .int) 1 := ⟨ub_mem 401 (by decide +kernel) rfl, ub_mem 20 (by decide +kernel) rfl, by decide +kernel⟩
theorem mf_X8_deeds : MF yX8_deeds cX8_deeds 6 (some .int) 3 := ⟨ub_mem 320 (by decide +kernel) rfl, ub_mem 20 (by decide +kernel) rfl, by decide +kernel⟩
theorem mf_X8_door : MF yX8_door cX8_door 4 (some .int) 2 := ⟨ub_mem 487 (by decide +kernel) rfl, ub_mem 20 (by decide +kernel) rfl, by decide +kernel⟩
theorem mf_X8_draft : MF yX8_draft cX8_draft 3 (some .int) 1 := ⟨ub_mem 617 (by decide +kernel) rfl, ub_mem 20 (by decide +kernel) rfl, by decide +kernel⟩
theorem mf_X8_fault : MF yX8_fault cX8_fault 1 (some .int) 0 := ⟨ub_mem 746 (by decide +kernel) rfl, ub_mem 20 (by decide +kernel) rfl, by decide +kernel⟩
theorem mf_X8_guest : MF yX8_guest cX8_guest 3 (some .int) 2 := ⟨ub_mem 255 (by decide +kernel) rfl, ub_mem 20 (by decide +kernel) rfl, by decide +kernel⟩
theorem mf_X8_guestOpens : MF yX8_guestOpens cX8_guestOpens 3 (some .int) 2 := ⟨ub_mem 621 (by decide +kernel) rfl, ub_mem 20 (by decide +kernel) rfl, by decide +kernel⟩
theorem mf_X8_guestShuts : MF yX8_guestShuts cX8_guestShuts 3 (some .int) 2 := ⟨ub_mem 629 (by decide +kernel) rfl, ub_mem 20 (by decide +kernel) rfl, by decide +kernel⟩
theorem mf_X8_hall : MF yX8_hall cX8_hall 3 (some .int) 2 := ⟨ub_mem 527 (by decide +kernel) rfl, ub_mem 20 (by decide +kernel) rfl, by decide +kernel⟩
theorem mf_X8_ifOpened : MF yX8_ifOpened cX8_ifOpened 7 (some .int) 2 := ⟨ub_mem 662 (by decide +kernel) rfl, ub_mem 20 (by decide +kernel) rfl, by decide +kernel⟩
theorem mf_X8_init : MF yX8_init cX8_init 1 none 0 := ⟨ub_mem 37 (by decide +kernel) rfl, ub_mem 20 (by decide +kernel) rfl, by decide +kernel⟩
theorem mf_X8_join : MF yX8_join cX8_join 5 (some .int) 3 := ⟨ub_mem 608 (by decide +kernel) rfl, ub_mem 20 (by decide +kernel) rfl, by decide +kernel⟩
theorem mf_X8_keys : MF yX8_keys cX8_keys 4 (some .int) 2 := ⟨ub_mem 613 (by decide +kernel) rfl, ub_mem 20 (by decide +kernel) rfl, by decide +kernel⟩
theorem mf_X8_open : MF yX8_open cX8_open 2 (some .int) 1 := ⟨ub_mem 546 (by decide +kernel) rfl, ub_mem 20 (by decide +kernel) rfl, by decide +kernel⟩
theorem mf_X8_restore : MF yX8_restore cX8_restore 1 (some .int) 0 := ⟨ub_mem 468 (by decide +kernel) rfl, ub_mem 20 (by decide +kernel) rfl, by decide +kernel⟩
theorem mf_X8_run : MF yX8_run cX8_run 5 (some .int) 0 := ⟨ub_mem 692 (by decide +kernel) rfl, ub_mem 20 (by decide +kernel) rfl, by decide +kernel⟩
theorem mf_X8_save : MF yX8_save cX8_save 1 (some .int) 0 := ⟨ub_mem 463 (by decide +kernel) rfl, ub_mem 20 (by decide +kernel) rfl, by decide +kernel⟩
theorem mf_X8_shut : MF yX8_shut cX8_shut 2 (some .int) 1 := ⟨ub_mem 575 (by decide +kernel) rfl, ub_mem 20 (by decide +kernel) rfl, by decide +kernel⟩
theorem mf_X8_tightness : MF yX8_tightness cX8_tightness 2 (some .double) 0 := ⟨ub_mem 520 (by decide +kernel) rfl, ub_mem 20 (by decide +kernel) rfl, by decide +kernel⟩
theorem mf_X8_together : MF yX8_together cX8_together 2 (some .int) 1 := ⟨ub_mem 650 (by decide +kernel) rfl, ub_mem 20 (by decide +kernel) rfl, by decide +kernel⟩
theorem mf_X8_undo : MF yX8_undo cX8_undo 1 (some .int) 0 := ⟨ub_mem 427 (by decide +kernel) rfl, ub_mem 20 (by decide +kernel) rfl, by decide +kernel⟩
theorem mf_X8_walk : MF yX8_walk cX8_walk 3 (some .int) 2 := ⟨ub_mem 641 (by decide +kernel) rfl, ub_mem 20 (by decide +kernel) rfl, by decide +kernel⟩
theorem mf_X8_why : MF yX8_why cX8_why 2 (some .int) 1 := ⟨ub_mem 668 (by decide +kernel) rfl, ub_mem 20 (by decide +kernel) rfl, by decide +kernel⟩
theorem mf_X8_whyNot : MF yX8_whyNot cX8_whyNot 2 (some .int) 1 := ⟨ub_mem 515 (by decide +kernel) rfl, ub_mem 20 (by decide +kernel) rfl, by decide +kernel⟩
