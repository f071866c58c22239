/-! THE CLAIM OUT OF ONE WALK OF THE LAW'S BODY. Your part is whole_start (and what it stands on); all else here is the same for every law, but numbers. -/
def R_law : String := "CordDoorsLaw"
def lw_P (b : Addr) (xs : List Int32) (args : Array Value) (s : State) : Prop := args = #[.ref b] ∧ s.IntsAt b xs ∧ xs.length ≤ 2048 ∧ (Jvm.Cond.and given_1 narrow_1).before args s = true
/-- what a walk over the start with the record d0 says of its end, said of the start itself -/
theorem lw_closed {s t : State} {o : Outcome} {d0 : Drawn} {L : List Loc} {k n : Nat} (hd0 : s.drawn.sameBut d0 lw_cs) (hv : ∃ v, o = .returned v) (hW : (s.setDrawn d0).WarmedH t.vm) (hs : (s.setDrawn d0).sameButNew ({ t with vm := s.vm } : State) L k n) : State.butDraws s t lw_cs (fun t1 => Framed s o t1 L k n) := by
  have h2 : t.drawn = d0 := congrArg State.drawn hs.1
  refine ⟨⟨hv, hW, State.sameButNew.setDrawn hs s.drawn⟩, ?_, by decide⟩
  rw [h2]
  exact hd0
def lw_Q (_ : Array Value) (s : State) (o : Outcome) (t : State) : Prop := o = .returned (some (.int 1)) ∧ State.butDraws s t lw_cs (fun t1 => Framed s o t1 [] 600000 7302250)
def lw_Z (below : List Frame) (a : Array Value) (s : State) : State → Prop := fun t => ∃ o, t.status = .running ∧ Ended t below o ∧ lw_Q a s o t
/-- the law's own end, with 1 on the stack, nothing written that was there before, its room as the claim has it; d0: the record of draws at this point (at the entry s.drawn: begin with 'refine W.base ?_' and 'have hd0 := Drawn.sameBut.refl s.drawn lw_cs') -/
theorem lw_ret {p : Program} {l : Launch} {e : Env} {s : State} {m : MethodId} {below : List Frame} {meth : Method} {c : Code} {b : Nat} {d0 : Drawn} (hd0 : s.drawn.sameBut d0 lw_cs) (hx : p.tables.exec = Jvm.exec) (hb : c.code = code) (hr : meth.sig.returnType = ret) (hlocks : meth.locks = false) {pc : Nat} {H : Heap} {ls : Array Slot} (hdg : decode code pc = .ok (.ireturn, 1)) : W p l e room_1 (s.setDrawn d0) m #[Value.ref b] below meth c H [] 600000 7302250 (lw_Z below #[Value.ref b] s) (F0 m pc ls [.int 1]) := by
  intro T hT X
  obtain ⟨fs, hret, hrun, hended, hW, hframe⟩ := X.leave (v := some (.int 1)) (hlocks := hlocks) (fun h => by rw [hr] at h; cases h)
  have hmeth' : T.vm.method? m = some meth := X.method'
  refine ⟨T.setFrames fs, ?_, .returned (some (.int 1)), hrun, hended, rfl, lw_closed hd0 ⟨_, rfl⟩ hW hframe⟩
  jvm_step X.here [X.here.top, hx, hb, hdg, hmeth', hr, ret, narrow_b1]
  (try refine ⟨rfl, ?_⟩); (try refine ⟨rfl, ?_⟩)
  first | (intro acts; rw [hret _ acts rfl rfl rfl]) | rw [hret _ _ rfl rfl rfl]
  exact Steps.refl _
/-- what holds at the law's entry: the machine, the code, the tables' words (any of lw_tbl by 'hts w (by decide +kernel)'), the script of L ints xs at the cell b, what the Statement gives of the start (any of its parts by flat_of_before) -/
def lw_At (p : Program) (s : State) (m : MethodId) (meth : Method) (c : Code) (b L : Nat) (xs : Nat → Int32) : Prop :=
  p.tables.exec = Jvm.exec ∧ c.code = code ∧ meth.sig.returnType = ret ∧ c.maxLocals = 8 ∧ s.vm.findClass R_law = some m.cls ∧ (∀ w ∈ lw_tbl, w.before #[Value.ref b] s = true) ∧ va_X b L xs s s.heap ∧ b < s.heap.size ∧ meth.locks = false ∧ (Jvm.Cond.and given_1 narrow_1).before #[Value.ref b] s = true
section LawRows
variable {p : Program} {l : Launch} {e : Env} {R : Room} {s : State} {m : MethodId} {args : Array Value} {below : List Frame} {meth : Method} {c : Code} {G : GG} {nL k n : Nat} {Q : State → Prop} {ws : va_W} {pc pc2 : Nat} {lv : List (Nat × Value)} {st : List Value} {cc : ByteArray} {own : String} {rt : Option FieldType} {b L : Nat} {xs : Nat → Int32}
theorem v_slen (S : Fx p m c cc nL s args own meth rt G (fun q : Nat => s.heap.size ≤ q)) (hX : va_X b L xs s s.heap) (hbl : b < s.heap.size) (hdg : decode cc pc = .ok (.arraylength, 1)) (hp : pc + 1 = pc2) (kk : V p l e R s m args below meth c G (fun q : Nat => s.heap.size ≤ q) nL k n Q ws pc2 lv (.int (Int32.ofNat L) :: st)) : V p l e R s m args below meth c G (fun q : Nat => s.heap.size ≤ q) nL k n Q ws pc lv (.ref b :: st) := by
  subst hp
  exact fun H locs ls hP hD hS hl => va_slen S.1.1 S.1.2.1 hX hbl (Nat.not_le.mpr hbl) hS hdg (kk H locs ls hP hD hS hl)
theorem v_sld (S : Fx p m c cc nL s args own meth rt G (fun q : Nat => s.heap.size ≤ q)) (hX : va_X b L xs s s.heap) (hbl : b < s.heap.size) {i : Int32} (hin : vp_in i L) (hdg : decode cc pc = .ok (.iaload, 1)) (hp : pc + 1 = pc2) (kk : V p l e R s m args below meth c G (fun q : Nat => s.heap.size ≤ q) nL k n Q ws pc2 lv (.int (xs i.toNatClampNeg) :: st)) : V p l e R s m args below meth c G (fun q : Nat => s.heap.size ≤ q) nL k n Q ws pc lv (.int i :: .ref b :: st) := by
  subst hp
  exact fun H locs ls hP hD hS hl => va_sld S.1.1 S.1.2.1 hX hbl (Nat.not_le.mpr hbl) hS hin hdg (kk H locs ls hP hD hS hl)
theorem v_law1 (S : Fx p m c code 8 s #[Value.ref b] own meth ret G (fun q : Nat => s.heap.size ≤ q)) (hdg : decode code pc = .ok (.ireturn, 1)) : V p l e room_1 s m #[Value.ref b] below meth c G (fun q : Nat => s.heap.size ≤ q) 8 600000 7302250 (lw_Z below #[Value.ref b] s) ws pc lv [.int 1] :=
  fun H locs ls hP hD hS hl => va_forget (fun q hq => hS.2.2 q hq) (W.base (lw_ret (Drawn.sameBut.refl s.drawn lw_cs) S.1.1 S.1.2.1 S.2.1 S.2.2.1 hdg))
end LawRows
theorem law_known {s : State} {args : Array Value} (hts : ∀ w ∈ lw_tbl, w.before args s = true) : ∃ G : GG, GK G s := by
  have hub : ∀ w ∈ ub, w.before args s = true := fun w hw => hts w (List.mem_filter.mp hw).1
  have h : ∀ j : Nat, ∃ cI : ClassId × (Nat → Nat), ∀ q : vw_C, vwCl[j]? = some q → u_Kn s q.1 q.2.1 q.2.2 cI.1 cI.2 := by
    intro j
    match j with
    | 0 =>
      obtain ⟨c0, i0, hK⟩ := u_known (C := RX0) (T := TX0) (N := 7) (n := 7) hub inX0 (hts (.instantiable RX0 7) (by decide +kernel))
      exact ⟨(c0, i0), fun q hq => by cases hq; exact hK⟩
    | 1 =>
      obtain ⟨c0, i0, hK⟩ := u_known (C := RX1) (T := TX1) (N := 3) (n := 3) hub inX1 (hts (.instantiable RX1 3) (by decide +kernel))
      exact ⟨(c0, i0), fun q hq => by cases hq; exact hK⟩
    | 2 =>
      obtain ⟨c0, i0, hK⟩ := u_known (C := RX2) (T := TX2) (N := 3) (n := 3) hub inX2 (hts (.instantiable RX2 3) (by decide +kernel))
      exact ⟨(c0, i0), fun q hq => by cases hq; exact hK⟩
    | 3 =>
      obtain ⟨c0, i0, hK⟩ := u_known (C := RX3) (T := TX3) (N := 6) (n := 6) hub inX3 (hts (.instantiable RX3 6) (by decide +kernel))
      exact ⟨(c0, i0), fun q hq => by cases hq; exact hK⟩
    | 4 =>
      obtain ⟨c0, i0, hK⟩ := u_known (C := RX4) (T := TX4) (N := 2) (n := 2) hub inX4 (hts (.instantiable RX4 2) (by decide +kernel))
      exact ⟨(c0, i0), fun q hq => by cases hq; exact hK⟩
    | 5 =>
      obtain ⟨c0, i0, hK⟩ := u_known (C := RX5) (T := TX5) (N := 4) (n := 4) hub inX5 (hts (.instantiable RX5 4) (by decide +kernel))
      exact ⟨(c0, i0), fun q hq => by cases hq; exact hK⟩
    | 6 =>
      obtain ⟨c0, i0, hK⟩ := u_known (C := RX6) (T := TX6) (N := 3) (n := 3) hub inX6 (hts (.instantiable RX6 3) (by decide +kernel))
      exact ⟨(c0, i0), fun q hq => by cases hq; exact hK⟩
    | 7 =>
      obtain ⟨c0, i0, hK⟩ := u_known (C := RX7) (T := TX7) (N := 3) (n := 3) hub inX7 (hts (.instantiable RX7 3) (by decide +kernel))
      exact ⟨(c0, i0), fun q hq => by cases hq; exact hK⟩
    | 8 =>
      obtain ⟨c0, i0, hK⟩ := u_known (C := RX8) (T := TX8) (N := 7) (n := 7) hub inX8 (hts (.instantiable RX8 7) (by decide +kernel))
      exact ⟨(c0, i0), fun q hq => by cases hq; exact hK⟩
    | 9 =>
      obtain ⟨c0, i0, hK⟩ := u_known (C := RX9) (T := TX9) (N := 17) (n := 17) hub inX9 (hts (.instantiable RX9 17) (by decide +kernel))
      exact ⟨(c0, i0), fun q hq => by cases hq; exact hK⟩
    | j + 10 => exact ⟨(0, fun _ => 0), fun q hq => by simp [vwCl] at hq⟩
  obtain ⟨f, hf⟩ := Classical.axiomOfChoice h
  obtain ⟨cI, kI, mI, i1, i2, i3⟩ := Cond.arrayClass_spec (hts (.arrayClass .int) (by decide +kernel))
  obtain ⟨comp, cS, kS, o1, -, o3, o4, o5⟩ := Cond.arrayOver_spec (hts (.arrayOver (.object RX5)) (by decide +kernel))
  refine ⟨((fun j => (f j).1, fun j => (f j).2), cI, cS), fun j q hq => hf j q hq, ?_⟩
  intro j q hq
  match j, hq with
  | 0, hq =>
    cases hq
    exact ⟨fun N z => ⟨(fun k h => by cases h), kI, i2, mI, i3⟩, i1⟩
  | 1, hq =>
    cases hq
    exact ⟨fun N z => ⟨(fun k h => by cases h), kS, o3, comp, o4⟩, kS, comp, o3, o4, o1, o5⟩
  | j + 2, hq => simp at hq
theorem law_enter {p : Program} {e : Env} {s : State} {m : MethodId} {below : List Frame} {meth : Method} {c : Code} (l : Launch) {b L : Nat} {xs : Nat → Int32} (C0 : lw_At p s m meth c b L xs) (hw : ∀ G : GG, Fx p m c code 8 s #[Value.ref b] RL meth ret G (fun q : Nat => s.heap.size ≤ q) → va_X b L xs s s.heap → b < s.heap.size → V p l e room_1 s m #[Value.ref b] below meth c G (fun q : Nat => s.heap.size ≤ q) 8 0 0 (lw_Z below #[Value.ref b] s) [] 0 [(0, .ref b)] []) : W p l e room_1 s m #[Value.ref b] below meth c s.heap [] 0 0 (lw_Z below #[Value.ref b] s) (entryFrame m ([Value.ref b] : List Value).toArray 8) := by
  obtain ⟨hx, hb, hr, hml, hown, hts, hX, hbl, hlocks, hgv⟩ := C0
  obtain ⟨G, hG⟩ := law_known hts
  have hub : ∀ w ∈ ub, w.before #[Value.ref b] s = true := fun w hw => hts w (List.mem_filter.mp hw).1
  have hl := lv_entry ([.ref b]) (n := 8) (Nat.le_of_ble_eq_true rfl)
  rw [lg_entry_eq]
  exact hw G ⟨⟨hx, hb, hml, hown, hub⟩, hr, hlocks, hG, NW.of hts, fun _ h => h⟩ hX hbl s.heap [] _ (fun k q h => by simp at h) ⟨fun i j p q h => by simp at h, fun k q h => by simp at h⟩ va_S.rf hl
theorem u_63 : (Cond.initialized RX8) ∈ ub := ub_mem 63 (by decide +kernel) rfl
theorem u_73 : (Cond.initialized RX9) ∈ ub := ub_mem 73 (by decide +kernel) rfl
theorem u_77 : (Cond.classLink RL 7 RX8) ∈ ub := ub_mem 77 (by decide +kernel) rfl
theorem u_78 : (Cond.instantiable RX8 7) ∈ ub := ub_mem 78 (by decide +kernel) rfl
theorem u_79 : (Cond.methodLink RL 9 yX8_init) ∈ ub := ub_mem 79 (by decide +kernel) rfl
theorem u_80 : (Cond.instanceMethod yX8_init) ∈ ub := ub_mem 80 (by decide +kernel) rfl
theorem u_296 : (Cond.methodLink RL 13 yX8_open) ∈ ub := ub_mem 296 (by decide +kernel) rfl
theorem u_297 : (Cond.instanceMethod yX8_open) ∈ ub := ub_mem 297 (by decide +kernel) rfl
theorem u_298 : (Cond.selects RX8 yX8_open yX8_open) ∈ ub := ub_mem 298 (by decide +kernel) rfl
theorem u_396 : (Cond.methodLink RL 18 yX8_shut) ∈ ub := ub_mem 396 (by decide +kernel) rfl
theorem u_397 : (Cond.instanceMethod yX8_shut) ∈ ub := ub_mem 397 (by decide +kernel) rfl
theorem u_398 : (Cond.selects RX8 yX8_shut yX8_shut) ∈ ub := ub_mem 398 (by decide +kernel) rfl
theorem u_417 : (Cond.methodLink RL 22 yX8_cord) ∈ ub := ub_mem 417 (by decide +kernel) rfl
theorem u_418 : (Cond.instanceMethod yX8_cord) ∈ ub := ub_mem 418 (by decide +kernel) rfl
theorem u_419 : (Cond.selects RX8 yX8_cord yX8_cord) ∈ ub := ub_mem 419 (by decide +kernel) rfl
theorem u_433 : (Cond.methodLink RL 27 yX8_join) ∈ ub := ub_mem 433 (by decide +kernel) rfl
theorem u_434 : (Cond.instanceMethod yX8_join) ∈ ub := ub_mem 434 (by decide +kernel) rfl
theorem u_435 : (Cond.selects RX8 yX8_join yX8_join) ∈ ub := ub_mem 435 (by decide +kernel) rfl
theorem u_450 : (Cond.methodLink RL 32 yX8_keys) ∈ ub := ub_mem 450 (by decide +kernel) rfl
theorem u_451 : (Cond.instanceMethod yX8_keys) ∈ ub := ub_mem 451 (by decide +kernel) rfl
theorem u_452 : (Cond.selects RX8 yX8_keys yX8_keys) ∈ ub := ub_mem 452 (by decide +kernel) rfl
theorem u_460 : (Cond.methodLink RL 37 yX8_draft) ∈ ub := ub_mem 460 (by decide +kernel) rfl
theorem u_461 : (Cond.instanceMethod yX8_draft) ∈ ub := ub_mem 461 (by decide +kernel) rfl
theorem u_462 : (Cond.selects RX8 yX8_draft yX8_draft) ∈ ub := ub_mem 462 (by decide +kernel) rfl
theorem u_464 : (Cond.methodLink RL 41 yX8_guestOpens) ∈ ub := ub_mem 464 (by decide +kernel) rfl
theorem u_465 : (Cond.instanceMethod yX8_guestOpens) ∈ ub := ub_mem 465 (by decide +kernel) rfl
theorem u_466 : (Cond.selects RX8 yX8_guestOpens yX8_guestOpens) ∈ ub := ub_mem 466 (by decide +kernel) rfl
theorem u_484 : (Cond.methodLink RL 45 yX8_guestShuts) ∈ ub := ub_mem 484 (by decide +kernel) rfl
theorem u_485 : (Cond.instanceMethod yX8_guestShuts) ∈ ub := ub_mem 485 (by decide +kernel) rfl
theorem u_486 : (Cond.selects RX8 yX8_guestShuts yX8_guestShuts) ∈ ub := ub_mem 486 (by decide +kernel) rfl
theorem u_496 : (Cond.methodLink RL 49 yX8_walk) ∈ ub := ub_mem 496 (by decide +kernel) rfl
theorem u_497 : (Cond.instanceMethod yX8_walk) ∈ ub := ub_mem 497 (by decide +kernel) rfl
theorem u_498 : (Cond.selects RX8 yX8_walk yX8_walk) ∈ ub := ub_mem 498 (by decide +kernel) rfl
theorem u_508 : (Cond.methodLink RL 53 yX8_append) ∈ ub := ub_mem 508 (by decide +kernel) rfl
theorem u_509 : (Cond.instanceMethod yX8_append) ∈ ub := ub_mem 509 (by decide +kernel) rfl
theorem u_510 : (Cond.selects RX8 yX8_append yX8_append) ∈ ub := ub_mem 510 (by decide +kernel) rfl
theorem u_516 : (Cond.methodLink RL 57 yX8_clear) ∈ ub := ub_mem 516 (by decide +kernel) rfl
theorem u_517 : (Cond.instanceMethod yX8_clear) ∈ ub := ub_mem 517 (by decide +kernel) rfl
theorem u_518 : (Cond.selects RX8 yX8_clear yX8_clear) ∈ ub := ub_mem 518 (by decide +kernel) rfl
theorem u_524 : (Cond.methodLink RL 62 yX8_fault) ∈ ub := ub_mem 524 (by decide +kernel) rfl
theorem u_525 : (Cond.instanceMethod yX8_fault) ∈ ub := ub_mem 525 (by decide +kernel) rfl
theorem u_526 : (Cond.selects RX8 yX8_fault yX8_fault) ∈ ub := ub_mem 526 (by decide +kernel) rfl
theorem u_541 : (Cond.methodLink RL 66 yX8_run) ∈ ub := ub_mem 541 (by decide +kernel) rfl
theorem u_542 : (Cond.instanceMethod yX8_run) ∈ ub := ub_mem 542 (by decide +kernel) rfl
theorem u_543 : (Cond.selects RX8 yX8_run yX8_run) ∈ ub := ub_mem 543 (by decide +kernel) rfl
theorem u_586 : (Cond.methodLink RL 70 yX8_why) ∈ ub := ub_mem 586 (by decide +kernel) rfl
theorem u_587 : (Cond.instanceMethod yX8_why) ∈ ub := ub_mem 587 (by decide +kernel) rfl
theorem u_588 : (Cond.selects RX8 yX8_why yX8_why) ∈ ub := ub_mem 588 (by decide +kernel) rfl
theorem u_590 : (Cond.methodLink RL 74 yX8_door) ∈ ub := ub_mem 590 (by decide +kernel) rfl
theorem u_591 : (Cond.instanceMethod yX8_door) ∈ ub := ub_mem 591 (by decide +kernel) rfl
theorem u_592 : (Cond.selects RX8 yX8_door yX8_door) ∈ ub := ub_mem 592 (by decide +kernel) rfl
theorem u_603 : (Cond.methodLink RL 78 yX8_hall) ∈ ub := ub_mem 603 (by decide +kernel) rfl
theorem u_604 : (Cond.instanceMethod yX8_hall) ∈ ub := ub_mem 604 (by decide +kernel) rfl
theorem u_605 : (Cond.selects RX8 yX8_hall yX8_hall) ∈ ub := ub_mem 605 (by decide +kernel) rfl
theorem u_620 : (Cond.methodLink RL 82 yX8_guest) ∈ ub := ub_mem 620 (by decide +kernel) rfl
theorem u_621 : (Cond.instanceMethod yX8_guest) ∈ ub := ub_mem 621 (by decide +kernel) rfl
theorem u_622 : (Cond.selects RX8 yX8_guest yX8_guest) ∈ ub := ub_mem 622 (by decide +kernel) rfl
theorem u_628 : (Cond.methodLink RL 86 yX8_whyNot) ∈ ub := ub_mem 628 (by decide +kernel) rfl
theorem u_629 : (Cond.instanceMethod yX8_whyNot) ∈ ub := ub_mem 629 (by decide +kernel) rfl
theorem u_630 : (Cond.selects RX8 yX8_whyNot yX8_whyNot) ∈ ub := ub_mem 630 (by decide +kernel) rfl
theorem u_633 : (Cond.methodLink RL 90 yX8_together) ∈ ub := ub_mem 633 (by decide +kernel) rfl
theorem u_634 : (Cond.instanceMethod yX8_together) ∈ ub := ub_mem 634 (by decide +kernel) rfl
theorem u_635 : (Cond.selects RX8 yX8_together yX8_together) ∈ ub := ub_mem 635 (by decide +kernel) rfl
theorem u_650 : (Cond.methodLink RL 94 yX8_can) ∈ ub := ub_mem 650 (by decide +kernel) rfl
theorem u_651 : (Cond.instanceMethod yX8_can) ∈ ub := ub_mem 651 (by decide +kernel) rfl
theorem u_652 : (Cond.selects RX8 yX8_can yX8_can) ∈ ub := ub_mem 652 (by decide +kernel) rfl
theorem u_654 : (Cond.methodLink RL 98 yX8_deeds) ∈ ub := ub_mem 654 (by decide +kernel) rfl
theorem u_655 : (Cond.instanceMethod yX8_deeds) ∈ ub := ub_mem 655 (by decide +kernel) rfl
theorem u_656 : (Cond.selects RX8 yX8_deeds yX8_deeds) ∈ ub := ub_mem 656 (by decide +kernel) rfl
theorem u_717 : (Cond.methodLink RL 102 yX8_count) ∈ ub := ub_mem 717 (by decide +kernel) rfl
theorem u_718 : (Cond.instanceMethod yX8_count) ∈ ub := ub_mem 718 (by decide +kernel) rfl
theorem u_719 : (Cond.selects RX8 yX8_count yX8_count) ∈ ub := ub_mem 719 (by decide +kernel) rfl
theorem u_738 : (Cond.methodLink RL 106 yX8_tightness) ∈ ub := ub_mem 738 (by decide +kernel) rfl
theorem u_739 : (Cond.instanceMethod yX8_tightness) ∈ ub := ub_mem 739 (by decide +kernel) rfl
theorem u_740 : (Cond.selects RX8 yX8_tightness yX8_tightness) ∈ ub := ub_mem 740 (by decide +kernel) rfl
theorem u_742 : (Cond.methodLink RL 111 yX8_ifOpened) ∈ ub := ub_mem 742 (by decide +kernel) rfl
theorem u_743 : (Cond.instanceMethod yX8_ifOpened) ∈ ub := ub_mem 743 (by decide +kernel) rfl
theorem u_744 : (Cond.selects RX8 yX8_ifOpened yX8_ifOpened) ∈ ub := ub_mem 744 (by decide +kernel) rfl
theorem u_748 : (Cond.methodLink RL 115 yX8_undo) ∈ ub := ub_mem 748 (by decide +kernel) rfl
theorem u_749 : (Cond.instanceMethod yX8_undo) ∈ ub := ub_mem 749 (by decide +kernel) rfl
theorem u_750 : (Cond.selects RX8 yX8_undo yX8_undo) ∈ ub := ub_mem 750 (by decide +kernel) rfl
theorem u_756 : (Cond.methodLink RL 119 yX8_save) ∈ ub := ub_mem 756 (by decide +kernel) rfl
theorem u_757 : (Cond.instanceMethod yX8_save) ∈ ub := ub_mem 757 (by decide +kernel) rfl
theorem u_758 : (Cond.selects RX8 yX8_save yX8_save) ∈ ub := ub_mem 758 (by decide +kernel) rfl
theorem u_761 : (Cond.methodLink RL 123 yX8_restore) ∈ ub := ub_mem 761 (by decide +kernel) rfl
theorem u_762 : (Cond.instanceMethod yX8_restore) ∈ ub := ub_mem 762 (by decide +kernel) rfl
theorem u_763 : (Cond.selects RX8 yX8_restore yX8_restore) ∈ ub := ub_mem 763 (by decide +kernel) rfl
theorem u_765 : (Cond.classLink RL 10 RX9) ∈ ub := ub_mem 765 (by decide +kernel) rfl
theorem u_766 : (Cond.instantiable RX9 17) ∈ ub := ub_mem 766 (by decide +kernel) rfl
theorem u_767 : (Cond.methodLink RL 12 yX9_init) ∈ ub := ub_mem 767 (by decide +kernel) rfl
theorem u_768 : (Cond.instanceMethod yX9_init) ∈ ub := ub_mem 768 (by decide +kernel) rfl
theorem u_827 : (Cond.methodLink RL 118 yX9_undo) ∈ ub := ub_mem 827 (by decide +kernel) rfl
theorem u_828 : (Cond.instanceMethod yX9_undo) ∈ ub := ub_mem 828 (by decide +kernel) rfl
theorem u_829 : (Cond.selects RX9 yX9_undo yX9_undo) ∈ ub := ub_mem 829 (by decide +kernel) rfl
theorem u_834 : (Cond.methodLink RL 122 yX9_save) ∈ ub := ub_mem 834 (by decide +kernel) rfl
theorem u_835 : (Cond.instanceMethod yX9_save) ∈ ub := ub_mem 835 (by decide +kernel) rfl
theorem u_836 : (Cond.selects RX9 yX9_save yX9_save) ∈ ub := ub_mem 836 (by decide +kernel) rfl
theorem u_846 : (Cond.methodLink RL 126 yX9_restore) ∈ ub := ub_mem 846 (by decide +kernel) rfl
theorem u_847 : (Cond.instanceMethod yX9_restore) ∈ ub := ub_mem 847 (by decide +kernel) rfl
theorem u_848 : (Cond.selects RX9 yX9_restore yX9_restore) ∈ ub := ub_mem 848 (by decide +kernel) rfl
theorem u_854 : (Cond.methodLink RL 17 yX9_open) ∈ ub := ub_mem 854 (by decide +kernel) rfl
theorem u_855 : (Cond.instanceMethod yX9_open) ∈ ub := ub_mem 855 (by decide +kernel) rfl
theorem u_856 : (Cond.selects RX9 yX9_open yX9_open) ∈ ub := ub_mem 856 (by decide +kernel) rfl
theorem u_908 : (Cond.methodLink RL 21 yX9_shut) ∈ ub := ub_mem 908 (by decide +kernel) rfl
theorem u_909 : (Cond.instanceMethod yX9_shut) ∈ ub := ub_mem 909 (by decide +kernel) rfl
theorem u_910 : (Cond.selects RX9 yX9_shut yX9_shut) ∈ ub := ub_mem 910 (by decide +kernel) rfl
theorem u_916 : (Cond.methodLink RL 44 yX9_guestOpens) ∈ ub := ub_mem 916 (by decide +kernel) rfl
theorem u_917 : (Cond.instanceMethod yX9_guestOpens) ∈ ub := ub_mem 917 (by decide +kernel) rfl
theorem u_918 : (Cond.selects RX9 yX9_guestOpens yX9_guestOpens) ∈ ub := ub_mem 918 (by decide +kernel) rfl
theorem u_939 : (Cond.methodLink RL 48 yX9_guestShuts) ∈ ub := ub_mem 939 (by decide +kernel) rfl
theorem u_940 : (Cond.instanceMethod yX9_guestShuts) ∈ ub := ub_mem 940 (by decide +kernel) rfl
theorem u_941 : (Cond.selects RX9 yX9_guestShuts yX9_guestShuts) ∈ ub := ub_mem 941 (by decide +kernel) rfl
theorem u_947 : (Cond.methodLink RL 52 yX9_walk) ∈ ub := ub_mem 947 (by decide +kernel) rfl
theorem u_948 : (Cond.instanceMethod yX9_walk) ∈ ub := ub_mem 948 (by decide +kernel) rfl
theorem u_949 : (Cond.selects RX9 yX9_walk yX9_walk) ∈ ub := ub_mem 949 (by decide +kernel) rfl
theorem u_959 : (Cond.methodLink RL 26 yX9_cord) ∈ ub := ub_mem 959 (by decide +kernel) rfl
theorem u_960 : (Cond.instanceMethod yX9_cord) ∈ ub := ub_mem 960 (by decide +kernel) rfl
theorem u_961 : (Cond.selects RX9 yX9_cord yX9_cord) ∈ ub := ub_mem 961 (by decide +kernel) rfl
theorem u_963 : (Cond.methodLink RL 31 yX9_join) ∈ ub := ub_mem 963 (by decide +kernel) rfl
theorem u_964 : (Cond.instanceMethod yX9_join) ∈ ub := ub_mem 964 (by decide +kernel) rfl
theorem u_965 : (Cond.selects RX9 yX9_join yX9_join) ∈ ub := ub_mem 965 (by decide +kernel) rfl
theorem u_978 : (Cond.methodLink RL 36 yX9_keys) ∈ ub := ub_mem 978 (by decide +kernel) rfl
theorem u_979 : (Cond.instanceMethod yX9_keys) ∈ ub := ub_mem 979 (by decide +kernel) rfl
theorem u_980 : (Cond.selects RX9 yX9_keys yX9_keys) ∈ ub := ub_mem 980 (by decide +kernel) rfl
theorem u_982 : (Cond.methodLink RL 40 yX9_draft) ∈ ub := ub_mem 982 (by decide +kernel) rfl
theorem u_983 : (Cond.instanceMethod yX9_draft) ∈ ub := ub_mem 983 (by decide +kernel) rfl
theorem u_984 : (Cond.selects RX9 yX9_draft yX9_draft) ∈ ub := ub_mem 984 (by decide +kernel) rfl
theorem u_986 : (Cond.methodLink RL 56 yX9_append) ∈ ub := ub_mem 986 (by decide +kernel) rfl
theorem u_987 : (Cond.instanceMethod yX9_append) ∈ ub := ub_mem 987 (by decide +kernel) rfl
theorem u_988 : (Cond.selects RX9 yX9_append yX9_append) ∈ ub := ub_mem 988 (by decide +kernel) rfl
theorem u_990 : (Cond.methodLink RL 61 yX9_clear) ∈ ub := ub_mem 990 (by decide +kernel) rfl
theorem u_991 : (Cond.instanceMethod yX9_clear) ∈ ub := ub_mem 991 (by decide +kernel) rfl
theorem u_992 : (Cond.selects RX9 yX9_clear yX9_clear) ∈ ub := ub_mem 992 (by decide +kernel) rfl
theorem u_994 : (Cond.methodLink RL 65 yX9_fault) ∈ ub := ub_mem 994 (by decide +kernel) rfl
theorem u_995 : (Cond.instanceMethod yX9_fault) ∈ ub := ub_mem 995 (by decide +kernel) rfl
theorem u_996 : (Cond.selects RX9 yX9_fault yX9_fault) ∈ ub := ub_mem 996 (by decide +kernel) rfl
theorem u_1018 : (Cond.methodLink RL 69 yX9_run) ∈ ub := ub_mem 1018 (by decide +kernel) rfl
theorem u_1019 : (Cond.instanceMethod yX9_run) ∈ ub := ub_mem 1019 (by decide +kernel) rfl
theorem u_1020 : (Cond.selects RX9 yX9_run yX9_run) ∈ ub := ub_mem 1020 (by decide +kernel) rfl
theorem u_1026 : (Cond.methodLink RL 73 yX9_why) ∈ ub := ub_mem 1026 (by decide +kernel) rfl
theorem u_1027 : (Cond.instanceMethod yX9_why) ∈ ub := ub_mem 1027 (by decide +kernel) rfl
theorem u_1028 : (Cond.selects RX9 yX9_why yX9_why) ∈ ub := ub_mem 1028 (by decide +kernel) rfl
theorem u_1030 : (Cond.methodLink RL 77 yX9_door) ∈ ub := ub_mem 1030 (by decide +kernel) rfl
theorem u_1031 : (Cond.instanceMethod yX9_door) ∈ ub := ub_mem 1031 (by decide +kernel) rfl
theorem u_1032 : (Cond.selects RX9 yX9_door yX9_door) ∈ ub := ub_mem 1032 (by decide +kernel) rfl
theorem u_1034 : (Cond.methodLink RL 81 yX9_hall) ∈ ub := ub_mem 1034 (by decide +kernel) rfl
theorem u_1035 : (Cond.instanceMethod yX9_hall) ∈ ub := ub_mem 1035 (by decide +kernel) rfl
theorem u_1036 : (Cond.selects RX9 yX9_hall yX9_hall) ∈ ub := ub_mem 1036 (by decide +kernel) rfl
theorem u_1053 : (Cond.methodLink RL 85 yX9_guest) ∈ ub := ub_mem 1053 (by decide +kernel) rfl
theorem u_1054 : (Cond.instanceMethod yX9_guest) ∈ ub := ub_mem 1054 (by decide +kernel) rfl
theorem u_1055 : (Cond.selects RX9 yX9_guest yX9_guest) ∈ ub := ub_mem 1055 (by decide +kernel) rfl
theorem u_1061 : (Cond.methodLink RL 89 yX9_whyNot) ∈ ub := ub_mem 1061 (by decide +kernel) rfl
theorem u_1062 : (Cond.instanceMethod yX9_whyNot) ∈ ub := ub_mem 1062 (by decide +kernel) rfl
theorem u_1063 : (Cond.selects RX9 yX9_whyNot yX9_whyNot) ∈ ub := ub_mem 1063 (by decide +kernel) rfl
theorem u_1065 : (Cond.methodLink RL 97 yX9_can) ∈ ub := ub_mem 1065 (by decide +kernel) rfl
theorem u_1066 : (Cond.instanceMethod yX9_can) ∈ ub := ub_mem 1066 (by decide +kernel) rfl
theorem u_1067 : (Cond.selects RX9 yX9_can yX9_can) ∈ ub := ub_mem 1067 (by decide +kernel) rfl
theorem u_1073 : (Cond.methodLink RL 93 yX9_together) ∈ ub := ub_mem 1073 (by decide +kernel) rfl
theorem u_1074 : (Cond.instanceMethod yX9_together) ∈ ub := ub_mem 1074 (by decide +kernel) rfl
theorem u_1075 : (Cond.selects RX9 yX9_together yX9_together) ∈ ub := ub_mem 1075 (by decide +kernel) rfl
theorem u_1077 : (Cond.methodLink RL 101 yX9_deeds) ∈ ub := ub_mem 1077 (by decide +kernel) rfl
theorem u_1078 : (Cond.instanceMethod yX9_deeds) ∈ ub := ub_mem 1078 (by decide +kernel) rfl
theorem u_1079 : (Cond.selects RX9 yX9_deeds yX9_deeds) ∈ ub := ub_mem 1079 (by decide +kernel) rfl
theorem u_1093 : (Cond.methodLink RL 105 yX9_count) ∈ ub := ub_mem 1093 (by decide +kernel) rfl
theorem u_1094 : (Cond.instanceMethod yX9_count) ∈ ub := ub_mem 1094 (by decide +kernel) rfl
theorem u_1095 : (Cond.selects RX9 yX9_count yX9_count) ∈ ub := ub_mem 1095 (by decide +kernel) rfl
theorem u_1113 : (Cond.methodLink RL 110 yX9_tightness) ∈ ub := ub_mem 1113 (by decide +kernel) rfl
theorem u_1114 : (Cond.instanceMethod yX9_tightness) ∈ ub := ub_mem 1114 (by decide +kernel) rfl
theorem u_1115 : (Cond.selects RX9 yX9_tightness yX9_tightness) ∈ ub := ub_mem 1115 (by decide +kernel) rfl
theorem u_1117 : (Cond.methodLink RL 114 yX9_ifOpened) ∈ ub := ub_mem 1117 (by decide +kernel) rfl
theorem u_1118 : (Cond.instanceMethod yX9_ifOpened) ∈ ub := ub_mem 1118 (by decide +kernel) rfl
theorem u_1119 : (Cond.selects RX9 yX9_ifOpened yX9_ifOpened) ∈ ub := ub_mem 1119 (by decide +kernel) rfl
theorem mf_X8_append : MF yX8_append cX8_append 2 (some .int) 1 := ⟨ub_mem 511 (by decide +kernel) rfl, ub_mem 63 (by decide +kernel) rfl, by decide +kernel⟩
theorem mf_X8_can : MF yX8_can cX8_can 2 (some .int) 1 := ⟨ub_mem 653 (by decide +kernel) rfl, ub_mem 63 (by decide +kernel) rfl, by decide +kernel⟩
theorem mf_X8_clear : MF yX8_clear cX8_clear 1 (some .int) 0 := ⟨ub_mem 519 (by decide +kernel) rfl, ub_mem 63 (by decide +kernel) rfl, by decide +kernel⟩
theorem mf_X8_cord : MF yX8_cord cX8_cord 4 (some .int) 3 := ⟨ub_mem 420 (by decide +kernel) rfl, ub_mem 63 (by decide +kernel) rfl, by decide +kernel⟩
theorem mf_X8_count : MF yX8_count cX8_count 4 (some .int) 1 := ⟨ub_mem 720 (by decide +kernel) rfl, ub_mem 63 (by decide +kernel) rfl, by decide +kernel⟩
theorem mf_X8_deeds : MF yX8_deeds cX8_deeds 6 (some .int) 3 := ⟨ub_mem 657 (by decide +kernel) rfl, ub_mem 63 (by decide +kernel) rfl, by decide +kernel⟩
theorem mf_X8_door : MF yX8_door cX8_door 4 (some .int) 2 := ⟨ub_mem 593 (by decide +kernel) rfl, ub_mem 63 (by decide +kernel) rfl, by decide +kernel⟩
theorem mf_X8_draft : MF yX8_draft cX8_draft 3 (some .int) 1 := ⟨ub_mem 463 (by decide +kernel) rfl, ub_mem 63 (by decide +kernel) rfl, by decide +kernel⟩
theorem mf_X8_fault : MF yX8_fault cX8_fault 1 (some .int) 0 := ⟨ub_mem 527 (by decide +kernel) rfl, ub_mem 63 (by decide +kernel) rfl, by decide +kernel⟩
theorem mf_X8_guest : MF yX8_guest cX8_guest 3 (some .int) 2 := ⟨ub_mem 623 (by decide +kernel) rfl, ub_mem 63 (by decide +kernel) rfl, by decide +kernel⟩
theorem mf_X8_guestOpens : MF yX8_guestOpens cX8_guestOpens 3 (some .int) 2 := ⟨ub_mem 467 (by decide +kernel) rfl, ub_mem 63 (by decide +kernel) rfl, by decide +kernel⟩
theorem mf_X8_guestShuts : MF yX8_guestShuts cX8_guestShuts 3 (some .int) 2 := ⟨ub_mem 487 (by decide +kernel) rfl, ub_mem 63 (by decide +kernel) rfl, by decide +kernel⟩
theorem mf_X8_hall : MF yX8_hall cX8_hall 3 (some .int) 2 := ⟨ub_mem 606 (by decide +kernel) rfl, ub_mem 63 (by decide +kernel) rfl, by decide +kernel⟩
theorem mf_X8_ifOpened : MF yX8_ifOpened cX8_ifOpened 7 (some .int) 2 := ⟨ub_mem 745 (by decide +kernel) rfl, ub_mem 63 (by decide +kernel) rfl, by decide +kernel⟩
theorem mf_X8_init : MF yX8_init cX8_init 1 none 0 := ⟨ub_mem 81 (by decide +kernel) rfl, ub_mem 63 (by decide +kernel) rfl, by decide +kernel⟩
theorem mf_X8_join : MF yX8_join cX8_join 5 (some .int) 3 := ⟨ub_mem 436 (by decide +kernel) rfl, ub_mem 63 (by decide +kernel) rfl, by decide +kernel⟩
theorem mf_X8_keys : MF yX8_keys cX8_keys 4 (some .int) 2 := ⟨ub_mem 453 (by decide +kernel) rfl, ub_mem 63 (by decide +kernel) rfl, by decide +kernel⟩
theorem mf_X8_open : MF yX8_open cX8_open 2 (some .int) 1 := ⟨ub_mem 299 (by decide +kernel) rfl, ub_mem 63 (by decide +kernel) rfl, by decide +kernel⟩
theorem mf_X8_restore : MF yX8_restore cX8_restore 1 (some .int) 0 := ⟨ub_mem 764 (by decide +kernel) rfl, ub_mem 63 (by decide +kernel) rfl, by decide +kernel⟩
theorem mf_X8_run : MF yX8_run cX8_run 5 (some .int) 0 := ⟨ub_mem 544 (by decide +kernel) rfl, ub_mem 63 (by decide +kernel) rfl, by decide +kernel⟩
theorem mf_X8_save : MF yX8_save cX8_save 1 (some .int) 0 := ⟨ub_mem 759 (by decide +kernel) rfl, ub_mem 63 (by decide +kernel) rfl, by decide +kernel⟩
theorem mf_X8_shut : MF yX8_shut cX8_shut 2 (some .int) 1 := ⟨ub_mem 399 (by decide +kernel) rfl, ub_mem 63 (by decide +kernel) rfl, by decide +kernel⟩
theorem mf_X8_tightness : MF yX8_tightness cX8_tightness 2 (some .double) 0 := ⟨ub_mem 741 (by decide +kernel) rfl, ub_mem 63 (by decide +kernel) rfl, by decide +kernel⟩
theorem mf_X8_together : MF yX8_together cX8_together 2 (some .int) 1 := ⟨ub_mem 636 (by decide +kernel) rfl, ub_mem 63 (by decide +kernel) rfl, by decide +kernel⟩
theorem mf_X8_undo : MF yX8_undo cX8_undo 1 (some .int) 0 := ⟨ub_mem 751 (by decide +kernel) rfl, ub_mem 63 (by decide +kernel) rfl, by decide +kernel⟩
theorem mf_X8_walk : MF yX8_walk cX8_walk 3 (some .int) 2 := ⟨ub_mem 499 (by decide +kernel) rfl, ub_mem 63 (by decide +kernel) rfl, by decide +kernel⟩
theorem mf_X8_why : MF yX8_why cX8_why 2 (some .int) 1 := ⟨ub_mem 589 (by decide +kernel) rfl, ub_mem 63 (by decide +kernel) rfl, by decide +kernel⟩
theorem mf_X8_whyNot : MF yX8_whyNot cX8_whyNot 2 (some .int) 1 := ⟨ub_mem 631 (by decide +kernel) rfl, ub_mem 63 (by decide +kernel) rfl, by decide +kernel⟩
theorem mf_X9_append : MF yX9_append cX9_append 2 (some .int) 1 := ⟨ub_mem 989 (by decide +kernel) rfl, ub_mem 73 (by decide +kernel) rfl, by decide +kernel⟩
theorem mf_X9_can : MF yX9_can cX9_can 2 (some .int) 1 := ⟨ub_mem 1068 (by decide +kernel) rfl, ub_mem 73 (by decide +kernel) rfl, by decide +kernel⟩
theorem mf_X9_clear : MF yX9_clear cX9_clear 2 (some .int) 0 := ⟨ub_mem 993 (by decide +kernel) rfl, ub_mem 73 (by decide +kernel) rfl, by decide +kernel⟩
theorem mf_X9_cord : MF yX9_cord cX9_cord 4 (some .int) 3 := ⟨ub_mem 962 (by decide +kernel) rfl, ub_mem 73 (by decide +kernel) rfl, by decide +kernel⟩
theorem mf_X9_count : MF yX9_count cX9_count 2 (some .int) 1 := ⟨ub_mem 1096 (by decide +kernel) rfl, ub_mem 73 (by decide +kernel) rfl, by decide +kernel⟩
theorem mf_X9_deeds : MF yX9_deeds cX9_deeds 6 (some .int) 3 := ⟨ub_mem 1080 (by decide +kernel) rfl, ub_mem 73 (by decide +kernel) rfl, by decide +kernel⟩
theorem mf_X9_door : MF yX9_door cX9_door 3 (some .int) 2 := ⟨ub_mem 1033 (by decide +kernel) rfl, ub_mem 73 (by decide +kernel) rfl, by decide +kernel⟩
theorem mf_X9_draft : MF yX9_draft cX9_draft 3 (some .int) 1 := ⟨ub_mem 985 (by decide +kernel) rfl, ub_mem 73 (by decide +kernel) rfl, by decide +kernel⟩
theorem mf_X9_fault : MF yX9_fault cX9_fault 1 (some .int) 0 := ⟨ub_mem 997 (by decide +kernel) rfl, ub_mem 73 (by decide +kernel) rfl, by decide +kernel⟩
theorem mf_X9_guest : MF yX9_guest cX9_guest 3 (some .int) 2 := ⟨ub_mem 1056 (by decide +kernel) rfl, ub_mem 73 (by decide +kernel) rfl, by decide +kernel⟩
theorem mf_X9_guestOpens : MF yX9_guestOpens cX9_guestOpens 3 (some .int) 2 := ⟨ub_mem 919 (by decide +kernel) rfl, ub_mem 73 (by decide +kernel) rfl, by decide +kernel⟩
theorem mf_X9_guestShuts : MF yX9_guestShuts cX9_guestShuts 3 (some .int) 2 := ⟨ub_mem 942 (by decide +kernel) rfl, ub_mem 73 (by decide +kernel) rfl, by decide +kernel⟩
theorem mf_X9_hall : MF yX9_hall cX9_hall 3 (some .int) 2 := ⟨ub_mem 1037 (by decide +kernel) rfl, ub_mem 73 (by decide +kernel) rfl, by decide +kernel⟩
theorem mf_X9_ifOpened : MF yX9_ifOpened cX9_ifOpened 4 (some .int) 2 := ⟨ub_mem 1120 (by decide +kernel) rfl, ub_mem 73 (by decide +kernel) rfl, by decide +kernel⟩
theorem mf_X9_init : MF yX9_init cX9_init 2 none 0 := ⟨ub_mem 769 (by decide +kernel) rfl, ub_mem 73 (by decide +kernel) rfl, by decide +kernel⟩
theorem mf_X9_join : MF yX9_join cX9_join 5 (some .int) 3 := ⟨ub_mem 966 (by decide +kernel) rfl, ub_mem 73 (by decide +kernel) rfl, by decide +kernel⟩
theorem mf_X9_keys : MF yX9_keys cX9_keys 4 (some .int) 2 := ⟨ub_mem 981 (by decide +kernel) rfl, ub_mem 73 (by decide +kernel) rfl, by decide +kernel⟩
theorem mf_X9_open : MF yX9_open cX9_open 2 (some .int) 1 := ⟨ub_mem 857 (by decide +kernel) rfl, ub_mem 73 (by decide +kernel) rfl, by decide +kernel⟩
theorem mf_X9_restore : MF yX9_restore cX9_restore 1 (some .int) 0 := ⟨ub_mem 849 (by decide +kernel) rfl, ub_mem 73 (by decide +kernel) rfl, by decide +kernel⟩
theorem mf_X9_run : MF yX9_run cX9_run 3 (some .int) 0 := ⟨ub_mem 1021 (by decide +kernel) rfl, ub_mem 73 (by decide +kernel) rfl, by decide +kernel⟩
theorem mf_X9_save : MF yX9_save cX9_save 1 (some .int) 0 := ⟨ub_mem 837 (by decide +kernel) rfl, ub_mem 73 (by decide +kernel) rfl, by decide +kernel⟩
theorem mf_X9_shut : MF yX9_shut cX9_shut 2 (some .int) 1 := ⟨ub_mem 911 (by decide +kernel) rfl, ub_mem 73 (by decide +kernel) rfl, by decide +kernel⟩
theorem mf_X9_tightness : MF yX9_tightness cX9_tightness 5 (some .double) 0 := ⟨ub_mem 1116 (by decide +kernel) rfl, ub_mem 73 (by decide +kernel) rfl, by decide +kernel⟩
theorem mf_X9_together : MF yX9_together cX9_together 4 (some .int) 1 := ⟨ub_mem 1076 (by decide +kernel) rfl, ub_mem 73 (by decide +kernel) rfl, by decide +kernel⟩
theorem mf_X9_undo : MF yX9_undo cX9_undo 1 (some .int) 0 := ⟨ub_mem 830 (by decide +kernel) rfl, ub_mem 73 (by decide +kernel) rfl, by decide +kernel⟩
theorem mf_X9_walk : MF yX9_walk cX9_walk 3 (some .int) 2 := ⟨ub_mem 950 (by decide +kernel) rfl, ub_mem 73 (by decide +kernel) rfl, by decide +kernel⟩
theorem mf_X9_why : MF yX9_why cX9_why 2 (some .int) 1 := ⟨ub_mem 1029 (by decide +kernel) rfl, ub_mem 73 (by decide +kernel) rfl, by decide +kernel⟩
theorem mf_X9_whyNot : MF yX9_whyNot cX9_whyNot 2 (some .int) 1 := ⟨ub_mem 1064 (by decide +kernel) rfl, ub_mem 73 (by decide +kernel) rfl, by decide +kernel⟩
theorem sw_out26 {x : Int32} (h0 : ¬ x = (0 : Int32)) (h1 : ¬ x = (1 : Int32)) (h2 : ¬ x = (2 : Int32)) (h3 : ¬ x = (3 : Int32)) (h4 : ¬ x = (4 : Int32)) (h5 : ¬ x = (5 : Int32)) (h6 : ¬ x = (6 : Int32)) (h7 : ¬ x = (7 : Int32)) (h8 : ¬ x = (8 : Int32)) (h9 : ¬ x = (9 : Int32)) (h10 : ¬ x = (10 : Int32)) (h11 : ¬ x = (11 : Int32)) (h12 : ¬ x = (12 : Int32)) (h13 : ¬ x = (13 : Int32)) (h14 : ¬ x = (14 : Int32)) (h15 : ¬ x = (15 : Int32)) (h16 : ¬ x = (16 : Int32)) (h17 : ¬ x = (17 : Int32)) (h18 : ¬ x = (18 : Int32)) (h19 : ¬ x = (19 : Int32)) (h20 : ¬ x = (20 : Int32)) (h21 : ¬ x = (21 : Int32)) (h22 : ¬ x = (22 : Int32)) (h23 : ¬ x = (23 : Int32)) (h24 : ¬ x = (24 : Int32)) (h25 : ¬ x = (25 : Int32)) (h26 : ¬ x = (26 : Int32)) : x.toInt < 0 ∨ (26 : Int) < x.toInt := by
  have h := sw_out (x := x) 26 (by decide) (fun j hj => by
    match j, hj with
    | 0, _ => exact h0
    | 1, _ => exact h1
    | 2, _ => exact h2
    | 3, _ => exact h3
    | 4, _ => exact h4
    | 5, _ => exact h5
    | 6, _ => exact h6
    | 7, _ => exact h7
    | 8, _ => exact h8
    | 9, _ => exact h9
    | 10, _ => exact h10
    | 11, _ => exact h11
    | 12, _ => exact h12
    | 13, _ => exact h13
    | 14, _ => exact h14
    | 15, _ => exact h15
    | 16, _ => exact h16
    | 17, _ => exact h17
    | 18, _ => exact h18
    | 19, _ => exact h19
    | 20, _ => exact h20
    | 21, _ => exact h21
    | 22, _ => exact h22
    | 23, _ => exact h23
    | 24, _ => exact h24
    | 25, _ => exact h25
    | 26, _ => exact h26
    | j + 27, hj => exact absurd hj (by omega))
  omega
