theorem va_P.perm {D : va_G} {cl : List vw_C} {w1 w2 : va_W} {H : Heap} (h : w1.Perm w2) (hP : va_P D cl w1 H) : va_P D cl w2 H := by
  intro k q hk
  obtain ⟨i, hi⟩ := List.getElem?_of_mem (h.symm.mem_iff.mp (List.mem_of_getElem? hk))
  exact hP i q hi
theorem va_P.left {D : va_G} {cl : List vw_C} {w1 w2 : va_W} {H : Heap} (hP : va_P D cl (w1 ++ w2) H) : va_P D cl w1 H := by
  intro k q hk
  obtain ⟨i, hi⟩ := List.getElem?_of_mem (List.mem_append_left w2 (List.mem_of_getElem? hk))
  exact hP i q hi
theorem va_P.right {D : va_G} {cl : List vw_C} {w1 w2 : va_W} {H : Heap} (hP : va_P D cl (w1 ++ w2) H) : va_P D cl w2 H := by
  intro k q hk
  obtain ⟨i, hi⟩ := List.getElem?_of_mem (List.mem_append_right w1 (List.mem_of_getElem? hk))
  exact hP i q hi
/-- the addresses are apart: as a list without doubles -/
theorem va_D.iff {A : Nat → Prop} {ws : va_W} : va_D A ws ↔ (ws.map (fun q => q.1)).Nodup ∧ ∀ q ∈ ws, A q.1 := by
  constructor
  · rintro ⟨h1, h2⟩
    refine ⟨?_, fun q hq => ?_⟩
    · show List.Pairwise _ _
      rw [List.pairwise_iff_getElem]
      intro i j hi hj hij he
      rw [List.length_map] at hi hj
      rw [List.getElem_map, List.getElem_map] at he
      have := h1 i j ws[i] ws[j] (List.getElem?_eq_getElem hi) (List.getElem?_eq_getElem hj) he
      omega
    · obtain ⟨i, hi⟩ := List.getElem?_of_mem hq
      exact h2 i q hi
  · rintro ⟨h1, h2⟩
    refine ⟨fun i j x y hi hj hxy => ?_, fun k q hk => h2 q (List.mem_of_getElem? hk)⟩
    have h1 : List.Pairwise _ _ := h1
    rw [List.pairwise_iff_getElem] at h1
    obtain ⟨li, ei⟩ := List.getElem?_eq_some_iff.mp hi
    obtain ⟨lj, ej⟩ := List.getElem?_eq_some_iff.mp hj
    rcases Nat.lt_trichotomy i j with h | h | h
    · exact absurd (by rw [List.getElem_map, List.getElem_map, ei, ej]; exact hxy) (h1 i j (by rw [List.length_map]; exact li) (by rw [List.length_map]; exact lj) h)
    · exact h
    · exact absurd (by rw [List.getElem_map, List.getElem_map, ei, ej]; exact hxy.symm) (h1 j i (by rw [List.length_map]; exact lj) (by rw [List.length_map]; exact li) h)
theorem va_D.perm {A : Nat → Prop} {w1 w2 : va_W} (h : w1.Perm w2) (hD : va_D A w1) : va_D A w2 := by
  rw [va_D.iff] at hD ⊢
  exact ⟨(h.map _).nodup_iff.mp hD.1, fun q hq => hD.2 q (h.symm.mem_iff.mp hq)⟩
theorem va_D.left {A : Nat → Prop} {w1 w2 : va_W} (hD : va_D A (w1 ++ w2)) : va_D A w1 := by
  rw [va_D.iff] at hD ⊢
  rw [List.map_append] at hD
  exact ⟨(List.nodup_append.mp hD.1).1, fun q hq => hD.2 q (List.mem_append_left _ hq)⟩
theorem va_D.right {A : Nat → Prop} {w1 w2 : va_W} (hD : va_D A (w1 ++ w2)) : va_D A w2 := by
  rw [va_D.iff] at hD ⊢
  rw [List.map_append] at hD
  exact ⟨(List.nodup_append.mp hD.1).2.1, fun q hq => hD.2 q (List.mem_append_right _ hq)⟩
theorem va_D.apart {A : Nat → Prop} {w1 w2 : va_W} {i j a : Nat} {x : va_E} {q : Nat × va_E} (hD : va_D A (w1 ++ w2)) (h1 : w1[i]? = some (a, x)) (h2 : w2[j]? = some q) (h3 : a = q.1) : False := by
  have li := (List.getElem?_eq_some_iff.mp h1).1
  have := hD.1 i (w1.length + j) (a, x) q (by rw [List.getElem?_append_left li]; exact h1) (by rw [List.getElem?_append_right (by omega)]; rw [show w1.length + j - w1.length = j by omega]; exact h2) h3
  omega
/-- the good words of the tables -/
def ub : List Cond := lw_tbl.filter goodWord
theorem ub_mem {w : Cond} (i : Nat) (h : lw_tbl[i]? = some w) (hg : goodWord w = true) : w ∈ ub := List.mem_filter.mpr ⟨List.mem_of_getElem? h, hg⟩
theorem ub_good {ws : List Cond} (h : ∀ w ∈ ws, w ∈ ub) : GoodIn ub ws := fun w hw => ⟨h w hw, good_of_word (List.mem_filter.mp (h w hw)).2⟩
theorem ub_cons {c : Cond} (h : c ∈ ub) : GoodIn ub (c :: ub) := ub_good (fun w hw => (List.mem_cons.mp hw).elim (fun e => e ▸ h) id)
def isNest : Cond → Bool
  | .fieldLinkNest .. => true
  | .methodLinkNest .. => true
  | _ => false
def nwL : List Cond := lw_tbl.filter isNest
/-- the words of nest mates -/
def NW (U : State) : Prop := (∀ w ∈ nwL, va_Nw w U) ∧ va_AO RX5 U
theorem nw_mem {w : Cond} (i : Nat) (h : lw_tbl[i]? = some w) (hg : isNest w = true) : w ∈ nwL := List.mem_filter.mpr ⟨List.mem_of_getElem? h, hg⟩
theorem NW.warm {s U : State} (hW : s.WarmedH U.vm) (h : NW s) : NW U := by
  refine ⟨?_, va_AO.moved hW.alike h.2⟩
  intro w hw
  have h1 := (List.mem_filter.mp hw).2
  have h2 := h.1 w hw
  cases w <;> first | exact va_Nw.warmF hW h2 | exact va_Nw.warmM hW h2 | (simp [isNest] at h1)
theorem NW.calling {U : State} {g : JFrame} {mk : MethodId} {a : Array Value} (h : NW U) : NW (U.calling g mk a) := by
  refine ⟨?_, va_AO.moved (u := U) (Vm.Alike.refl U.vm) h.2⟩
  intro w hw
  have h1 := (List.mem_filter.mp hw).2
  have h2 := h.1 w hw
  refine va_Nw.same (u := U) ?_ rfl h2
  cases w <;> first | rfl | (simp [isNest] at h1)
theorem NW.of {A : Array Value} {U : State} (h : ∀ w ∈ lw_tbl, w.before A U = true) : NW U := by
  refine ⟨?_, va_AO.of (h (.arrayOver (.object RX5)) (by decide +kernel))⟩
  intro w hw
  have h1 := (List.mem_filter.mp hw).2
  refine va_Nw.of ?_ (h w (List.mem_filter.mp hw).1)
  cases w <;> first | rfl | (simp [isNest] at h1)
abbrev GG : Type := va_G × ClassId × ClassId
abbrev GK (G : GG) (U : State) : Prop := va_K G.1 vwCl [(G.2.1, .int), (G.2.2, .object RX5)] U
/-- what a walk has at hand -/
abbrev Fx (p : Program) (m : MethodId) (c : Code) (cc : ByteArray) (nL : Nat) (s : State) (args : Array Value) (own : String) (meth : Method) (rt : Option FieldType) (G : GG) (A : Nat → Prop) : Prop :=
  CallFix p m c cc nL s args ub own ∧ meth.sig.returnType = rt ∧ meth.locks = false ∧ GK G s ∧ NW s ∧ ∀ q, s.heap.size ≤ q → A q
def V (p : Program) (l : Launch) (e : Env) (R : Room) (s : State) (m : MethodId) (args : Array Value) (below : List Frame) (meth : Method) (c : Code) (G : GG) (A : Nat → Prop) (nL k n : Nat) (Q : State → Prop) (ws : va_W) (pc : Nat) (lv : List (Nat × Value)) (st : List Value) : Prop :=
  ∀ (H : Heap) (locs : List Loc) (ls : Array Slot), va_P G.1 vwCl ws H → va_D A ws → va_S A s.heap H locs → lv_has ls nL lv → W p l e R s m args below meth c H locs k n Q (F0 m pc ls st)
/-- an end of a method -/
def EQ (G : GG) (C : va_W) (sz : Nat) (Pq : Option Value → va_W → Prop) : Array Value → State → Outcome → State → Prop := fun _ st oc t =>
  (∃ (v : Option Value) (w : va_W), oc = .returned v ∧ Pq v w ∧ va_P G.1 vwCl w t.heap ∧ GK G t ∧ va_D (va_A C sz) w) ∧ va_F (va_A C sz) st t
/-- a contract -/
def Con (l : Launch) (G : GG) (y : MethodName) (b : ByteArray) (nL : Nat) (rt : Option FieldType) (rm : Room) (av : List Value) (C : va_W) (Pq : Option Value → va_W → Prop) (mc ms : Nat) : Prop :=
  ∀ sz : Nat, Met l y (.code y b nL rt :: ub) rm (va_Pc av (fun U => U.heap.size = sz ∧ va_P G.1 vwCl C U.heap ∧ GK G U ∧ va_D (fun _ => True) C ∧ NW U)) (EQ G C sz Pq) mc ms (va_A C sz)
def PI {S : Type} (wf : S → va_W) (Q : Int32 → S → Prop) : Option Value → va_W → Prop := fun v w => ∃ (r : Int32) (u : S), v = some (.int r) ∧ w = wf u ∧ Q r u
def PB {S : Type} (wf : S → va_W) (Q : Int32 → S → Prop) : Option Value → va_W → Prop := fun v w => ∃ (r : Int32) (u : S), v = some (.int r) ∧ narrow .boolean (.int r) = .int r ∧ w = wf u ∧ Q r u
def PD {S : Type} (wf : S → va_W) (Q : UInt64 → S → Prop) : Option Value → va_W → Prop := fun v w => ∃ (r : UInt64) (u : S), v = some (.double r) ∧ w = wf u ∧ Q r u
def PA {S : Type} (ad : Int32 → Nat) (wf : S → va_W) (Q : Int32 → S → Prop) : Option Value → va_W → Prop := fun v w => ∃ (r : Int32) (u : S), v = some (.ref (ad r)) ∧ w = wf u ∧ Q r u
def PV {S : Type} (wf : S → va_W) (Q : S → Prop) : Option Value → va_W → Prop := fun v w => ∃ (u : S), v = none ∧ w = wf u ∧ Q u
theorem pi {S : Type} {wf : S → va_W} {Q : Int32 → S → Prop} {P : Option Value → va_W → Prop} (h : ∀ r u, Q r u → P (some (.int r)) (wf u)) : ∀ v w, PI wf Q v w → P v w := by
  rintro v w ⟨r, u, rfl, rfl, hq⟩; exact h r u hq
theorem pb {S : Type} {wf : S → va_W} {Q : Int32 → S → Prop} {P : Option Value → va_W → Prop} (h : ∀ r u, narrow .boolean (.int r) = .int r → Q r u → P (some (.int r)) (wf u)) : ∀ v w, PB wf Q v w → P v w := by
  rintro v w ⟨r, u, rfl, hr, rfl, hq⟩; exact h r u hr hq
theorem pd {S : Type} {wf : S → va_W} {Q : UInt64 → S → Prop} {P : Option Value → va_W → Prop} (h : ∀ r u, Q r u → P (some (.double r)) (wf u)) : ∀ v w, PD wf Q v w → P v w := by
  rintro v w ⟨r, u, rfl, rfl, hq⟩; exact h r u hq
theorem pa {S : Type} {ad : Int32 → Nat} {wf : S → va_W} {Q : Int32 → S → Prop} {P : Option Value → va_W → Prop} (h : ∀ r u, Q r u → P (some (.ref (ad r))) (wf u)) : ∀ v w, PA ad wf Q v w → P v w := by
  rintro v w ⟨r, u, rfl, rfl, hq⟩; exact h r u hq
theorem pv {S : Type} {wf : S → va_W} {Q : S → Prop} {P : Option Value → va_W → Prop} (h : ∀ u, Q u → P none (wf u)) : ∀ v w, PV wf Q v w → P v w := by
  rintro v w ⟨u, rfl, rfl, hq⟩; exact h u hq
/-- what the tables say of a class's field, by a link -/
abbrev GF (own : String) (idx ci k : Nat) : Prop := ∃ (C : String) (T : u_T) (N : Nat), vwCl[ci]? = some (C, T, N) ∧ (∀ w ∈ u_ws C T N, w ∈ ub) ∧ k < N ∧ Cond.fieldLink own idx (T k).1 (T k).2.1 (T k).2.2.1 ∈ ub
abbrev GFN (own : String) (idx ci k : Nat) : Prop := ∃ (C : String) (T : u_T) (N : Nat) (host : String), vwCl[ci]? = some (C, T, N) ∧ (∀ w ∈ u_ws C T N, w ∈ ub) ∧ k < N ∧ Cond.fieldLinkNest own idx (T k).1 (T k).2.1 (T k).2.2.1 host ∈ nwL
/-- and to write it -/
abbrev PFc (ci k : Nat) (fin : Bool) (ty : FieldType) : Prop := ∃ (C : String) (T : u_T) (N : Nat) (ty0 : Nat → FieldType), vwCl[ci]? = some (C, T, N) ∧ (∀ j, j < N → parseFieldDescriptor (T j).2.2.1 = some (ty0 j)) ∧ (∀ a, a < N → ∀ b, b < N → a ≠ b → (T a).2.1 ≠ (T b).2.1) ∧ (T k).2.2.2 = fin ∧ parseFieldDescriptor (T k).2.2.1 = some ty ∧ (T k).1 = C
/-- a callee's words -/
abbrev MF (y : MethodName) (b : ByteArray) (nL : Nat) (rt : Option FieldType) (n : Nat) : Prop := Cond.code y b nL rt ∈ ub ∧ Cond.initialized y.cls ∈ ub ∧ (y.cls ≠ "java/lang/invoke/MethodHandle" ∧ y.cls ≠ "java/lang/invoke/VarHandle" ∧ (parseMethodDescriptor y.desc).map (fun d => d.parameters.length) = some n)
/-- how a callee's cells lie in the caller's world -/
def FrM (ws C Rs : va_W) (wf : va_W → va_W) : Prop := ws.Perm (C ++ Rs) ∧ ∀ w : va_W, (w ++ Rs).Perm (wf w)
theorem frW (C : va_W) : FrM C C [] (fun w => w) := ⟨by rw [List.append_nil], fun w => by rw [List.append_nil]⟩
theorem frM (L2 C R2 : va_W) : FrM (L2 ++ (C ++ R2)) C (L2 ++ R2) (fun w => L2 ++ (w ++ R2)) := ⟨List.perm_append_comm_assoc L2 C R2, fun w => (List.perm_append_comm_assoc L2 w R2).symm⟩
theorem frP {ws C Rs : va_W} (h : ws.Perm (C ++ Rs)) : FrM ws C Rs (fun w => w ++ Rs) := ⟨h, fun w => List.Perm.refl _⟩
/-- pieces of a world in another order -/
theorem gperm (gs : List va_W) (is : List Nat) (h : is.isPerm (List.range gs.length) = true) : gs.flatten.Perm ((is.map (fun i => gs.getD i [])).flatten) := by
  refine List.Perm.flatten ?_
  have h1 : (List.range gs.length).map (fun i => gs.getD i []) = gs := by
    apply List.ext_getElem
    · simp
    · intro i h1 h2
      simp [h2]
  have h2 := (List.isPerm_iff.mp h).map (fun i => gs.getD i [])
  rw [h1] at h2
  exact h2.symm
section VRows
variable {p : Program} {l : Launch} {e : Env} {R : Room} {s : State} {m : MethodId} {args : Array Value} {below : List Frame} {meth : Method} {c : Code} {G : GG} {A : Nat → Prop} {nL k n : Nat} {Q : State → Prop} {ws ws2 : va_W} {pc pc2 : Nat} {lv lv2 : List (Nat × Value)} {st : List Value} {cc : ByteArray} {own : String} {rt : Option FieldType}
theorem v_to (ws2 : va_W) (pc2 : Nat) (lv2 : List (Nat × Value)) (st st2 : List Value) (h1 : ws = ws2) (h2 : pc = pc2) (h3 : lv = lv2) (h4 : st = st2) (kk : V p l e R s m args below meth c G A nL k n Q ws2 pc2 lv2 st2) : V p l e R s m args below meth c G A nL k n Q ws pc lv st := by
  subst h1; subst h2; subst h3; subst h4; exact kk
theorem v_lv (lv2 : List (Nat × Value)) (ks : List Nat) (h : lv_pick lv ks = lv2) (kk : V p l e R s m args below meth c G A nL k n Q ws pc lv2 st) : V p l e R s m args below meth c G A nL k n Q ws pc lv st :=
  fun H locs ls hP hD hS hl => kk H locs ls hP hD hS (lv_sub hl ks h)
theorem v_widen {k2 n2 : Nat} (h1 : k ≤ k2) (h2 : n ≤ n2) (kk : V p l e R s m args below meth c G A nL k2 n2 Q ws pc lv st) : V p l e R s m args below meth c G A nL k n Q ws pc lv st :=
  fun H locs ls hP hD hS hl => W.widen h1 h2 (kk H locs ls hP hD hS hl)

theorem v_iload_n (S : Fx p m c cc nL s args own meth rt G A) {i : Fin 4} {j : Nat} {x : Int32} (k0 : Nat) (hdg : decode cc pc = .ok (.iload_n i, 1)) (hi : (i : Nat) = j) (hk : lv[k0]? = some (j, .int x)) (hp : pc + 1 = pc2) (kk : V p l e R s m args below meth c G A nL k n Q ws pc2 lv (.int x :: st)) : V p l e R s m args below meth c G A nL k n Q ws pc lv (st) := by
  subst hp; exact fun H locs ls hP hD hS hl => lv_iload_n S.1.1 S.1.2.1 hdg hi (lv_at hl k0 hk) (kk H locs ls hP hD hS hl)
theorem v_iload (S : Fx p m c cc nL s args own meth rt G A) {j : Nat} {x : Int32} (k0 : Nat) (hdg : decode cc pc = .ok (.iload j, 2)) (hk : lv[k0]? = some (j, .int x)) (hp : pc + 2 = pc2) (kk : V p l e R s m args below meth c G A nL k n Q ws pc2 lv (.int x :: st)) : V p l e R s m args below meth c G A nL k n Q ws pc lv (st) := by
  subst hp; exact fun H locs ls hP hD hS hl => lv_iload S.1.1 S.1.2.1 hdg (lv_at hl k0 hk) (kk H locs ls hP hD hS hl)
theorem v_aload_n (S : Fx p m c cc nL s args own meth rt G A) {i : Fin 4} {j : Nat} {x : Nat} (k0 : Nat) (hdg : decode cc pc = .ok (.aload_n i, 1)) (hi : (i : Nat) = j) (hk : lv[k0]? = some (j, .ref x)) (hp : pc + 1 = pc2) (kk : V p l e R s m args below meth c G A nL k n Q ws pc2 lv (.ref x :: st)) : V p l e R s m args below meth c G A nL k n Q ws pc lv (st) := by
  subst hp; exact fun H locs ls hP hD hS hl => lv_aload_n S.1.1 S.1.2.1 hdg hi (lv_at hl k0 hk) (kk H locs ls hP hD hS hl)
theorem v_aload (S : Fx p m c cc nL s args own meth rt G A) {j : Nat} {x : Nat} (k0 : Nat) (hdg : decode cc pc = .ok (.aload j, 2)) (hk : lv[k0]? = some (j, .ref x)) (hp : pc + 2 = pc2) (kk : V p l e R s m args below meth c G A nL k n Q ws pc2 lv (.ref x :: st)) : V p l e R s m args below meth c G A nL k n Q ws pc lv (st) := by
  subst hp; exact fun H locs ls hP hD hS hl => lv_aload S.1.1 S.1.2.1 hdg (lv_at hl k0 hk) (kk H locs ls hP hD hS hl)
theorem v_istore_n (S : Fx p m c cc nL s args own meth rt G A) {i : Fin 4} {j : Nat} {x : Int32} (hdg : decode cc pc = .ok (.istore_n i, 1)) (hi : (i : Nat) = j) (hn : j < nL) (ks : List Nat) (h2 : lv_pick ((j, Value.int x) :: lv.filter (fun q => !(q.1 == j) && !(q.1 + 1 == j && q.2.category == 2))) ks = lv2) (hp : pc + 1 = pc2) (kk : V p l e R s m args below meth c G A nL k n Q ws pc2 lv2 st) : V p l e R s m args below meth c G A nL k n Q ws pc lv (.int x :: st) := by
  subst hp; exact fun H locs ls hP hD hS hl => lv_istore_n S.1.1 S.1.2.1 hdg hi hl hn rfl (fun ls hl => kk H locs ls hP hD hS (lv_sub hl ks h2))
theorem v_istore (S : Fx p m c cc nL s args own meth rt G A) {j : Nat} {x : Int32} (hdg : decode cc pc = .ok (.istore j, 2))  (hn : j < nL) (ks : List Nat) (h2 : lv_pick ((j, Value.int x) :: lv.filter (fun q => !(q.1 == j) && !(q.1 + 1 == j && q.2.category == 2))) ks = lv2) (hp : pc + 2 = pc2) (kk : V p l e R s m args below meth c G A nL k n Q ws pc2 lv2 st) : V p l e R s m args below meth c G A nL k n Q ws pc lv (.int x :: st) := by
  subst hp; exact fun H locs ls hP hD hS hl => lv_istore S.1.1 S.1.2.1 hdg hl hn rfl (fun ls hl => kk H locs ls hP hD hS (lv_sub hl ks h2))
theorem v_astore_n (S : Fx p m c cc nL s args own meth rt G A) {i : Fin 4} {j : Nat} {x : Nat} (hdg : decode cc pc = .ok (.astore_n i, 1)) (hi : (i : Nat) = j) (hn : j < nL) (ks : List Nat) (h2 : lv_pick ((j, Value.ref x) :: lv.filter (fun q => !(q.1 == j) && !(q.1 + 1 == j && q.2.category == 2))) ks = lv2) (hp : pc + 1 = pc2) (kk : V p l e R s m args below meth c G A nL k n Q ws pc2 lv2 st) : V p l e R s m args below meth c G A nL k n Q ws pc lv (.ref x :: st) := by
  subst hp; exact fun H locs ls hP hD hS hl => lv_astore_n S.1.1 S.1.2.1 hdg hi hl hn rfl (fun ls hl => kk H locs ls hP hD hS (lv_sub hl ks h2))
theorem v_astore (S : Fx p m c cc nL s args own meth rt G A) {j : Nat} {x : Nat} (hdg : decode cc pc = .ok (.astore j, 2))  (hn : j < nL) (ks : List Nat) (h2 : lv_pick ((j, Value.ref x) :: lv.filter (fun q => !(q.1 == j) && !(q.1 + 1 == j && q.2.category == 2))) ks = lv2) (hp : pc + 2 = pc2) (kk : V p l e R s m args below meth c G A nL k n Q ws pc2 lv2 st) : V p l e R s m args below meth c G A nL k n Q ws pc lv (.ref x :: st) := by
  subst hp; exact fun H locs ls hP hD hS hl => lv_astore S.1.1 S.1.2.1 hdg hl hn rfl (fun ls hl => kk H locs ls hP hD hS (lv_sub hl ks h2))
theorem v_iinc (S : Fx p m c cc nL s args own meth rt G A) {j : Nat} {d : Int} {x v : Int32} (k0 : Nat) (hdg : decode cc pc = .ok (.iinc j d, 3)) (hk : lv[k0]? = some (j, .int x)) (hv : x + Int32.ofInt d = v) (hn : j < nL) (ks : List Nat) (h2 : lv_pick ((j, Value.int v) :: lv.filter (fun q => !(q.1 == j) && !(q.1 + 1 == j && q.2.category == 2))) ks = lv2) (hp : pc + 3 = pc2) (kk : V p l e R s m args below meth c G A nL k n Q ws pc2 lv2 st) : V p l e R s m args below meth c G A nL k n Q ws pc lv st := by
  subst hp; exact fun H locs ls hP hD hS hl => lv_iinc S.1.1 S.1.2.1 hdg hl hk hv hn rfl (fun ls hl => kk H locs ls hP hD hS (lv_sub hl ks h2))
theorem v_iconst (S : Fx p m c cc nL s args own meth rt G A) {d : Int} {v : Int32} (hdg : decode cc pc = .ok (.iconst d, 1)) (hv : Int32.ofInt d = v) (hp : pc + 1 = pc2) (kk : V p l e R s m args below meth c G A nL k n Q ws pc2 lv (.int v :: st)) : V p l e R s m args below meth c G A nL k n Q ws pc lv (st) := by
  subst hp; exact fun H locs ls hP hD hS hl => lv_iconst S.1.1 S.1.2.1 hdg hv (kk H locs ls hP hD hS hl)
theorem v_bipush (S : Fx p m c cc nL s args own meth rt G A) {d : Int} {v : Int32} (hdg : decode cc pc = .ok (.bipush d, 2)) (hv : (Int8.ofInt d).toInt32 = v) (hp : pc + 2 = pc2) (kk : V p l e R s m args below meth c G A nL k n Q ws pc2 lv (.int v :: st)) : V p l e R s m args below meth c G A nL k n Q ws pc lv (st) := by
  subst hp; exact fun H locs ls hP hD hS hl => lv_bipush S.1.1 S.1.2.1 hdg hv (kk H locs ls hP hD hS hl)
theorem v_sipush (S : Fx p m c cc nL s args own meth rt G A) {d : Int} {v : Int32} (hdg : decode cc pc = .ok (.sipush d, 3)) (hv : (Int16.ofInt d).toInt32 = v) (hp : pc + 3 = pc2) (kk : V p l e R s m args below meth c G A nL k n Q ws pc2 lv (.int v :: st)) : V p l e R s m args below meth c G A nL k n Q ws pc lv (st) := by
  subst hp; exact fun H locs ls hP hD hS hl => lv_sipush S.1.1 S.1.2.1 hdg hv (kk H locs ls hP hD hS hl)
theorem v_ldcw (S : Fx p m c cc nL s args own meth rt G A) {index : Nat} {v : Int32} (hc : Cond.constant own index v ∈ ub) (hdg : decode cc pc = .ok (.ldc_w index, 3)) (hp : pc + 3 = pc2) (kk : V p l e R s m args below meth c G A nL k n Q ws pc2 lv (.int v :: st)) : V p l e R s m args below meth c G A nL k n Q ws pc lv (st) := by
  subst hp; exact fun H locs ls hP hD hS hl => lv_ldcw S.1.1 S.1.2.1 S.1.2.2.2.1 (S.1.2.2.2.2 _ hc) hdg (kk H locs ls hP hD hS hl)
theorem v_iadd (S : Fx p m c cc nL s args own meth rt G A) {x y : Int32} (hdg : decode cc pc = .ok (.iadd, 1)) (hp : pc + 1 = pc2) (kk : V p l e R s m args below meth c G A nL k n Q ws pc2 lv (.int (x + y) :: st)) : V p l e R s m args below meth c G A nL k n Q ws pc lv (.int y :: .int x :: st) := by
  subst hp; exact fun H locs ls hP hD hS hl => lv_iadd S.1.1 S.1.2.1 hdg (kk H locs ls hP hD hS hl)
theorem v_isub (S : Fx p m c cc nL s args own meth rt G A) {x y : Int32} (hdg : decode cc pc = .ok (.isub, 1)) (hp : pc + 1 = pc2) (kk : V p l e R s m args below meth c G A nL k n Q ws pc2 lv (.int (x - y) :: st)) : V p l e R s m args below meth c G A nL k n Q ws pc lv (.int y :: .int x :: st) := by
  subst hp; exact fun H locs ls hP hD hS hl => lv_isub S.1.1 S.1.2.1 hdg (kk H locs ls hP hD hS hl)
theorem v_imul (S : Fx p m c cc nL s args own meth rt G A) {x y : Int32} (hdg : decode cc pc = .ok (.imul, 1)) (hp : pc + 1 = pc2) (kk : V p l e R s m args below meth c G A nL k n Q ws pc2 lv (.int (x * y) :: st)) : V p l e R s m args below meth c G A nL k n Q ws pc lv (.int y :: .int x :: st) := by
  subst hp; exact fun H locs ls hP hD hS hl => lv_imul S.1.1 S.1.2.1 hdg (kk H locs ls hP hD hS hl)
theorem v_iand (S : Fx p m c cc nL s args own meth rt G A) {x y : Int32} (hdg : decode cc pc = .ok (.iand, 1)) (hp : pc + 1 = pc2) (kk : V p l e R s m args below meth c G A nL k n Q ws pc2 lv (.int (x &&& y) :: st)) : V p l e R s m args below meth c G A nL k n Q ws pc lv (.int y :: .int x :: st) := by
  subst hp; exact fun H locs ls hP hD hS hl => lv_iand S.1.1 S.1.2.1 hdg (kk H locs ls hP hD hS hl)
theorem v_ior (S : Fx p m c cc nL s args own meth rt G A) {x y : Int32} (hdg : decode cc pc = .ok (.ior, 1)) (hp : pc + 1 = pc2) (kk : V p l e R s m args below meth c G A nL k n Q ws pc2 lv (.int (x ||| y) :: st)) : V p l e R s m args below meth c G A nL k n Q ws pc lv (.int y :: .int x :: st) := by
  subst hp; exact fun H locs ls hP hD hS hl => lv_ior S.1.1 S.1.2.1 hdg (kk H locs ls hP hD hS hl)
theorem v_ixor (S : Fx p m c cc nL s args own meth rt G A) {x y : Int32} (hdg : decode cc pc = .ok (.ixor, 1)) (hp : pc + 1 = pc2) (kk : V p l e R s m args below meth c G A nL k n Q ws pc2 lv (.int (x ^^^ y) :: st)) : V p l e R s m args below meth c G A nL k n Q ws pc lv (.int y :: .int x :: st) := by
  subst hp; exact fun H locs ls hP hD hS hl => lv_ixor S.1.1 S.1.2.1 hdg (kk H locs ls hP hD hS hl)
theorem v_ishl (S : Fx p m c cc nL s args own meth rt G A) {x y : Int32} (hdg : decode cc pc = .ok (.ishl, 1)) (hp : pc + 1 = pc2) (kk : V p l e R s m args below meth c G A nL k n Q ws pc2 lv (.int (x <<< (y &&& 31)) :: st)) : V p l e R s m args below meth c G A nL k n Q ws pc lv (.int y :: .int x :: st) := by
  subst hp; exact fun H locs ls hP hD hS hl => lv_ishl S.1.1 S.1.2.1 hdg (kk H locs ls hP hD hS hl)
theorem v_ishr (S : Fx p m c cc nL s args own meth rt G A) {x y : Int32} (hdg : decode cc pc = .ok (.ishr, 1)) (hp : pc + 1 = pc2) (kk : V p l e R s m args below meth c G A nL k n Q ws pc2 lv (.int (x >>> (y &&& 31)) :: st)) : V p l e R s m args below meth c G A nL k n Q ws pc lv (.int y :: .int x :: st) := by
  subst hp; exact fun H locs ls hP hD hS hl => lv_ishr S.1.1 S.1.2.1 hdg (kk H locs ls hP hD hS hl)
theorem v_ineg (S : Fx p m c cc nL s args own meth rt G A) {x : Int32} (hdg : decode cc pc = .ok (.ineg, 1)) (hp : pc + 1 = pc2) (kk : V p l e R s m args below meth c G A nL k n Q ws pc2 lv (.int (-x) :: st)) : V p l e R s m args below meth c G A nL k n Q ws pc lv (.int x :: st) := by
  subst hp; exact fun H locs ls hP hD hS hl => lv_ineg S.1.1 S.1.2.1 hdg (kk H locs ls hP hD hS hl)
theorem v_iushr (S : Fx p m c cc nL s args own meth rt G A) {x y : Int32} (hdg : decode cc pc = .ok (.iushr, 1)) (hp : pc + 1 = pc2) (kk : V p l e R s m args below meth c G A nL k n Q ws pc2 lv (.int ((x.toUInt32 >>> (y.toUInt32 &&& Int32.toUInt32 31)).toInt32) :: st)) : V p l e R s m args below meth c G A nL k n Q ws pc lv (.int y :: .int x :: st) := by
  subst hp; exact fun H locs ls hP hD hS hl => lv_iushr S.1.1 S.1.2.1 hdg rfl (kk H locs ls hP hD hS hl)
theorem v_idiv (S : Fx p m c cc nL s args own meth rt G A) {x y : Int32} (hne : ¬ y = 0) (hdg : decode cc pc = .ok (.idiv, 1)) (hp : pc + 1 = pc2) (kk : V p l e R s m args below meth c G A nL k n Q ws pc2 lv (.int (x / y) :: st)) : V p l e R s m args below meth c G A nL k n Q ws pc lv (.int y :: .int x :: st) := by
  subst hp; exact fun H locs ls hP hD hS hl => lv_idiv S.1.1 S.1.2.1 hdg hne (kk H locs ls hP hD hS hl)
theorem v_irem (S : Fx p m c cc nL s args own meth rt G A) {x y : Int32} (hne : ¬ y = 0) (hdg : decode cc pc = .ok (.irem, 1)) (hp : pc + 1 = pc2) (kk : V p l e R s m args below meth c G A nL k n Q ws pc2 lv (.int (x - x / y * y) :: st)) : V p l e R s m args below meth c G A nL k n Q ws pc lv (.int y :: .int x :: st) := by
  subst hp; exact fun H locs ls hP hD hS hl => lv_irem S.1.1 S.1.2.1 hdg hne (kk H locs ls hP hD hS hl)
theorem v_dup (S : Fx p m c cc nL s args own meth rt G A) {v : Value} (hdg : decode cc pc = .ok (.dup, 1)) (hv : v.category = 1) (hp : pc + 1 = pc2) (kk : V p l e R s m args below meth c G A nL k n Q ws pc2 lv (v :: v :: st)) : V p l e R s m args below meth c G A nL k n Q ws pc lv (v :: st) := by
  subst hp; exact fun H locs ls hP hD hS hl => lv_dup S.1.1 S.1.2.1 hdg hv (kk H locs ls hP hD hS hl)
theorem v_dup2 (S : Fx p m c cc nL s args own meth rt G A) {v w : Value} (hdg : decode cc pc = .ok (.dup2, 1)) (hv : v.category = 1) (hw : w.category = 1) (hp : pc + 1 = pc2) (kk : V p l e R s m args below meth c G A nL k n Q ws pc2 lv (v :: w :: v :: w :: st)) : V p l e R s m args below meth c G A nL k n Q ws pc lv (v :: w :: st) := by
  subst hp; exact fun H locs ls hP hD hS hl => lv_dup2_11 S.1.1 S.1.2.1 hdg hv hw (kk H locs ls hP hD hS hl)
theorem v_pop (S : Fx p m c cc nL s args own meth rt G A) {v : Value} (hdg : decode cc pc = .ok (.pop, 1)) (hv : v.category = 1) (hp : pc + 1 = pc2) (kk : V p l e R s m args below meth c G A nL k n Q ws pc2 lv (st)) : V p l e R s m args below meth c G A nL k n Q ws pc lv (v :: st) := by
  subst hp; exact fun H locs ls hP hD hS hl => lv_pop S.1.1 S.1.2.1 hdg hv (kk H locs ls hP hD hS hl)
theorem v_i2d (S : Fx p m c cc nL s args own meth rt G A) {x : Int32} (hdg : decode cc pc = .ok (.i2d, 1)) (hp : pc + 1 = pc2) (kk : V p l e R s m args below meth c G A nL k n Q ws pc2 lv (.double (FP.i2d x) :: st)) : V p l e R s m args below meth c G A nL k n Q ws pc lv (.int x :: st) := by
  subst hp; exact fun H locs ls hP hD hS hl => lv_i2d S.1.1 S.1.2.1 hdg (kk H locs ls hP hD hS hl)
theorem v_dconst0 (S : Fx p m c cc nL s args own meth rt G A)  (hdg : decode cc pc = .ok (.dconst 0, 1)) (hp : pc + 1 = pc2) (kk : V p l e R s m args below meth c G A nL k n Q ws pc2 lv (.double FP.dconst0 :: st)) : V p l e R s m args below meth c G A nL k n Q ws pc lv (st) := by
  subst hp; exact fun H locs ls hP hD hS hl => lv_dconst0 S.1.1 S.1.2.1 hdg (kk H locs ls hP hD hS hl)
theorem v_ddiv (S : Fx p m c cc nL s args own meth rt G A) {x y : UInt64} (hne : vf_n64 (FP.ddiv x y)) (hdg : decode cc pc = .ok (.ddiv, 1)) (hp : pc + 1 = pc2) (kk : V p l e R s m args below meth c G A nL k n Q ws pc2 lv (.double (FP.ddiv x y) :: st)) : V p l e R s m args below meth c G A nL k n Q ws pc lv (.double y :: .double x :: st) := by
  subst hp; exact fun H locs ls hP hD hS hl => lv_ddiv S.1.1 S.1.2.1 hdg hne (kk H locs ls hP hD hS hl)
theorem v_dcmp (S : Fx p m c cc nL s args own meth rt G A) {x y : UInt64} {op : CmpOp} (hdg : decode cc pc = .ok (.dcmp op, 1)) (hp : pc + 1 = pc2) (kk : V p l e R s m args below meth c G A nL k n Q ws pc2 lv (.int (Op.cmpValue (FP.dcmp x y) op) :: st)) : V p l e R s m args below meth c G A nL k n Q ws pc lv (.double y :: .double x :: st) := by
  subst hp; exact fun H locs ls hP hD hS hl => lv_dcmp S.1.1 S.1.2.1 hdg (kk H locs ls hP hD hS hl)
theorem v_dload_n (S : Fx p m c cc nL s args own meth rt G A) {i : Fin 4} {j : Nat} {x : UInt64} (k0 : Nat) (hdg : decode cc pc = .ok (.dload_n i, 1)) (hi : (i : Nat) = j) (hk : lv[k0]? = some (j, .double x)) (hp : pc + 1 = pc2) (kk : V p l e R s m args below meth c G A nL k n Q ws pc2 lv (.double x :: st)) : V p l e R s m args below meth c G A nL k n Q ws pc lv (st) := by
  subst hp; exact fun H locs ls hP hD hS hl => lv_dload_n S.1.1 S.1.2.1 hdg hi (lv_at hl k0 hk) (kk H locs ls hP hD hS hl)
theorem v_dload (S : Fx p m c cc nL s args own meth rt G A) {j : Nat} {x : UInt64} (k0 : Nat) (hdg : decode cc pc = .ok (.dload j, 2)) (hk : lv[k0]? = some (j, .double x)) (hp : pc + 2 = pc2) (kk : V p l e R s m args below meth c G A nL k n Q ws pc2 lv (.double x :: st)) : V p l e R s m args below meth c G A nL k n Q ws pc lv (st) := by
  subst hp; exact fun H locs ls hP hD hS hl => lv_dload S.1.1 S.1.2.1 hdg (lv_at hl k0 hk) (kk H locs ls hP hD hS hl)
theorem v_dstore_n (S : Fx p m c cc nL s args own meth rt G A) {i : Fin 4} {j : Nat} {x : UInt64} (hdg : decode cc pc = .ok (.dstore_n i, 1)) (hi : (i : Nat) = j) (hn : j + 1 < nL) (ks : List Nat) (h2 : lv_pick ((j, Value.double x) :: lv.filter (fun q => !(q.1 == j) && (!(q.1 == j + 1) && !(q.1 + 1 == j && q.2.category == 2)))) ks = lv2) (hp : pc + 1 = pc2) (kk : V p l e R s m args below meth c G A nL k n Q ws pc2 lv2 st) : V p l e R s m args below meth c G A nL k n Q ws pc lv (.double x :: st) := by
  subst hp; exact fun H locs ls hP hD hS hl => lv_dstore_n S.1.1 S.1.2.1 hdg hi hl hn rfl (fun ls hl => kk H locs ls hP hD hS (lv_sub hl ks h2))
theorem v_dstore (S : Fx p m c cc nL s args own meth rt G A) {j : Nat} {x : UInt64} (hdg : decode cc pc = .ok (.dstore j, 2))  (hn : j + 1 < nL) (ks : List Nat) (h2 : lv_pick ((j, Value.double x) :: lv.filter (fun q => !(q.1 == j) && (!(q.1 == j + 1) && !(q.1 + 1 == j && q.2.category == 2)))) ks = lv2) (hp : pc + 2 = pc2) (kk : V p l e R s m args below meth c G A nL k n Q ws pc2 lv2 st) : V p l e R s m args below meth c G A nL k n Q ws pc lv (.double x :: st) := by
  subst hp; exact fun H locs ls hP hD hS hl => lv_dstore S.1.1 S.1.2.1 hdg hl hn rfl (fun ls hl => kk H locs ls hP hD hS (lv_sub hl ks h2))
theorem v_nmd {x : UInt64} (kk : ∀ y : UInt64, y = x → V p l e R s m args below meth c G A nL k n Q ws pc lv (.double y :: st)) : V p l e R s m args below meth c G A nL k n Q ws pc lv (.double x :: st) := kk x rfl
theorem v_icmp_eq (S : Fx p m c cc nL s args own meth rt G A) {x y : Int32} {off : Int} {tgt : Nat} (hdg : decode cc pc = .ok (.if_icmp .eq off, 3)) (ht : (pc : Int) + off = (tgt : Int)) (hp : pc + 3 = pc2) (kt : x = y → V p l e R s m args below meth c G A nL k n Q ws tgt lv st) (kf : ¬ x = y → V p l e R s m args below meth c G A nL k n Q ws pc2 lv st) : V p l e R s m args below meth c G A nL k n Q ws pc lv (.int y :: .int x :: st) := by
  subst hp; exact fun H locs ls hP hD hS hl => lv_icmp_eq S.1.1 S.1.2.1 hdg ht (fun c => kt c H locs ls hP hD hS hl) (fun c => kf c H locs ls hP hD hS hl)
theorem v_icmp_ne (S : Fx p m c cc nL s args own meth rt G A) {x y : Int32} {off : Int} {tgt : Nat} (hdg : decode cc pc = .ok (.if_icmp .ne off, 3)) (ht : (pc : Int) + off = (tgt : Int)) (hp : pc + 3 = pc2) (kt : ¬ x = y → V p l e R s m args below meth c G A nL k n Q ws tgt lv st) (kf : x = y → V p l e R s m args below meth c G A nL k n Q ws pc2 lv st) : V p l e R s m args below meth c G A nL k n Q ws pc lv (.int y :: .int x :: st) := by
  subst hp; exact fun H locs ls hP hD hS hl => lv_icmp_ne S.1.1 S.1.2.1 hdg ht (fun c => kt c H locs ls hP hD hS hl) (fun c => kf c H locs ls hP hD hS hl)
theorem v_icmp_lt (S : Fx p m c cc nL s args own meth rt G A) {x y : Int32} {off : Int} {tgt : Nat} (hdg : decode cc pc = .ok (.if_icmp .lt off, 3)) (ht : (pc : Int) + off = (tgt : Int)) (hp : pc + 3 = pc2) (kt : x < y → V p l e R s m args below meth c G A nL k n Q ws tgt lv st) (kf : ¬ x < y → V p l e R s m args below meth c G A nL k n Q ws pc2 lv st) : V p l e R s m args below meth c G A nL k n Q ws pc lv (.int y :: .int x :: st) := by
  subst hp; exact fun H locs ls hP hD hS hl => lv_icmp_lt S.1.1 S.1.2.1 hdg ht (fun c => kt c H locs ls hP hD hS hl) (fun c => kf c H locs ls hP hD hS hl)
theorem v_icmp_ge (S : Fx p m c cc nL s args own meth rt G A) {x y : Int32} {off : Int} {tgt : Nat} (hdg : decode cc pc = .ok (.if_icmp .ge off, 3)) (ht : (pc : Int) + off = (tgt : Int)) (hp : pc + 3 = pc2) (kt : y ≤ x → V p l e R s m args below meth c G A nL k n Q ws tgt lv st) (kf : ¬ y ≤ x → V p l e R s m args below meth c G A nL k n Q ws pc2 lv st) : V p l e R s m args below meth c G A nL k n Q ws pc lv (.int y :: .int x :: st) := by
  subst hp; exact fun H locs ls hP hD hS hl => lv_icmp_ge S.1.1 S.1.2.1 hdg ht (fun c => kt c H locs ls hP hD hS hl) (fun c => kf c H locs ls hP hD hS hl)
theorem v_icmp_gt (S : Fx p m c cc nL s args own meth rt G A) {x y : Int32} {off : Int} {tgt : Nat} (hdg : decode cc pc = .ok (.if_icmp .gt off, 3)) (ht : (pc : Int) + off = (tgt : Int)) (hp : pc + 3 = pc2) (kt : y < x → V p l e R s m args below meth c G A nL k n Q ws tgt lv st) (kf : ¬ y < x → V p l e R s m args below meth c G A nL k n Q ws pc2 lv st) : V p l e R s m args below meth c G A nL k n Q ws pc lv (.int y :: .int x :: st) := by
  subst hp; exact fun H locs ls hP hD hS hl => lv_icmp_gt S.1.1 S.1.2.1 hdg ht (fun c => kt c H locs ls hP hD hS hl) (fun c => kf c H locs ls hP hD hS hl)
theorem v_icmp_le (S : Fx p m c cc nL s args own meth rt G A) {x y : Int32} {off : Int} {tgt : Nat} (hdg : decode cc pc = .ok (.if_icmp .le off, 3)) (ht : (pc : Int) + off = (tgt : Int)) (hp : pc + 3 = pc2) (kt : x ≤ y → V p l e R s m args below meth c G A nL k n Q ws tgt lv st) (kf : ¬ x ≤ y → V p l e R s m args below meth c G A nL k n Q ws pc2 lv st) : V p l e R s m args below meth c G A nL k n Q ws pc lv (.int y :: .int x :: st) := by
  subst hp; exact fun H locs ls hP hD hS hl => lv_icmp_le S.1.1 S.1.2.1 hdg ht (fun c => kt c H locs ls hP hD hS hl) (fun c => kf c H locs ls hP hD hS hl)
theorem v_if_eq (S : Fx p m c cc nL s args own meth rt G A) {x : Int32} {off : Int} {tgt : Nat} (hdg : decode cc pc = .ok (.ifCond .eq off, 3)) (ht : (pc : Int) + off = (tgt : Int)) (hp : pc + 3 = pc2) (kt : x = 0 → V p l e R s m args below meth c G A nL k n Q ws tgt lv st) (kf : ¬ x = 0 → V p l e R s m args below meth c G A nL k n Q ws pc2 lv st) : V p l e R s m args below meth c G A nL k n Q ws pc lv (.int x :: st) := by
  subst hp; exact fun H locs ls hP hD hS hl => lv_if_eq S.1.1 S.1.2.1 hdg ht (fun c => kt c H locs ls hP hD hS hl) (fun c => kf c H locs ls hP hD hS hl)
theorem v_if_ne (S : Fx p m c cc nL s args own meth rt G A) {x : Int32} {off : Int} {tgt : Nat} (hdg : decode cc pc = .ok (.ifCond .ne off, 3)) (ht : (pc : Int) + off = (tgt : Int)) (hp : pc + 3 = pc2) (kt : ¬ x = 0 → V p l e R s m args below meth c G A nL k n Q ws tgt lv st) (kf : x = 0 → V p l e R s m args below meth c G A nL k n Q ws pc2 lv st) : V p l e R s m args below meth c G A nL k n Q ws pc lv (.int x :: st) := by
  subst hp; exact fun H locs ls hP hD hS hl => lv_if_ne S.1.1 S.1.2.1 hdg ht (fun c => kt c H locs ls hP hD hS hl) (fun c => kf c H locs ls hP hD hS hl)
theorem v_if_lt (S : Fx p m c cc nL s args own meth rt G A) {x : Int32} {off : Int} {tgt : Nat} (hdg : decode cc pc = .ok (.ifCond .lt off, 3)) (ht : (pc : Int) + off = (tgt : Int)) (hp : pc + 3 = pc2) (kt : x < 0 → V p l e R s m args below meth c G A nL k n Q ws tgt lv st) (kf : ¬ x < 0 → V p l e R s m args below meth c G A nL k n Q ws pc2 lv st) : V p l e R s m args below meth c G A nL k n Q ws pc lv (.int x :: st) := by
  subst hp; exact fun H locs ls hP hD hS hl => lv_if_lt S.1.1 S.1.2.1 hdg ht (fun c => kt c H locs ls hP hD hS hl) (fun c => kf c H locs ls hP hD hS hl)
theorem v_if_ge (S : Fx p m c cc nL s args own meth rt G A) {x : Int32} {off : Int} {tgt : Nat} (hdg : decode cc pc = .ok (.ifCond .ge off, 3)) (ht : (pc : Int) + off = (tgt : Int)) (hp : pc + 3 = pc2) (kt : 0 ≤ x → V p l e R s m args below meth c G A nL k n Q ws tgt lv st) (kf : ¬ 0 ≤ x → V p l e R s m args below meth c G A nL k n Q ws pc2 lv st) : V p l e R s m args below meth c G A nL k n Q ws pc lv (.int x :: st) := by
  subst hp; exact fun H locs ls hP hD hS hl => lv_if_ge S.1.1 S.1.2.1 hdg ht (fun c => kt c H locs ls hP hD hS hl) (fun c => kf c H locs ls hP hD hS hl)
theorem v_if_gt (S : Fx p m c cc nL s args own meth rt G A) {x : Int32} {off : Int} {tgt : Nat} (hdg : decode cc pc = .ok (.ifCond .gt off, 3)) (ht : (pc : Int) + off = (tgt : Int)) (hp : pc + 3 = pc2) (kt : 0 < x → V p l e R s m args below meth c G A nL k n Q ws tgt lv st) (kf : ¬ 0 < x → V p l e R s m args below meth c G A nL k n Q ws pc2 lv st) : V p l e R s m args below meth c G A nL k n Q ws pc lv (.int x :: st) := by
  subst hp; exact fun H locs ls hP hD hS hl => lv_if_gt S.1.1 S.1.2.1 hdg ht (fun c => kt c H locs ls hP hD hS hl) (fun c => kf c H locs ls hP hD hS hl)
theorem v_if_le (S : Fx p m c cc nL s args own meth rt G A) {x : Int32} {off : Int} {tgt : Nat} (hdg : decode cc pc = .ok (.ifCond .le off, 3)) (ht : (pc : Int) + off = (tgt : Int)) (hp : pc + 3 = pc2) (kt : x ≤ 0 → V p l e R s m args below meth c G A nL k n Q ws tgt lv st) (kf : ¬ x ≤ 0 → V p l e R s m args below meth c G A nL k n Q ws pc2 lv st) : V p l e R s m args below meth c G A nL k n Q ws pc lv (.int x :: st) := by
  subst hp; exact fun H locs ls hP hD hS hl => lv_if_le S.1.1 S.1.2.1 hdg ht (fun c => kt c H locs ls hP hD hS hl) (fun c => kf c H locs ls hP hD hS hl)
theorem v_goto (S : Fx p m c cc nL s args own meth rt G A) {off : Int} {tgt : Nat} (hdg : decode cc pc = .ok (.goto off, 3)) (ht : (pc : Int) + off = (tgt : Int)) (kk : V p l e R s m args below meth c G A nL k n Q ws tgt lv st) : V p l e R s m args below meth c G A nL k n Q ws pc lv st :=
  fun H locs ls hP hD hS hl => lv_goto S.1.1 S.1.2.1 hdg ht (kk H locs ls hP hD hS hl)
theorem v_tableIn (S : Fx p m c cc nL s args own meth rt G A) {dflt lo hi : Int} {offs : Array Int} {len : Nat} {x : Int32} {off : Int} {tgt : Nat} (hdg : decode cc pc = .ok (.tableswitch dflt lo hi offs, len)) (h1 : ¬ x.toInt < lo) (h2 : ¬ hi < x.toInt) (ho : offs[(x.toInt - lo).toNat]? = some off) (ht : (pc : Int) + off = (tgt : Int)) (kk : V p l e R s m args below meth c G A nL k n Q ws tgt lv st) : V p l e R s m args below meth c G A nL k n Q ws pc lv (.int x :: st) :=
  fun H locs ls hP hD hS hl => lv_tableIn S.1.1 S.1.2.1 hdg h1 h2 ho ht (kk H locs ls hP hD hS hl)
theorem v_tableOut (S : Fx p m c cc nL s args own meth rt G A) {dflt lo hi : Int} {offs : Array Int} {len : Nat} {x : Int32} {tgt : Nat} (hdg : decode cc pc = .ok (.tableswitch dflt lo hi offs, len)) (h : x.toInt < lo ∨ hi < x.toInt) (ht : (pc : Int) + dflt = (tgt : Int)) (kk : V p l e R s m args below meth c G A nL k n Q ws tgt lv st) : V p l e R s m args below meth c G A nL k n Q ws pc lv (.int x :: st) :=
  fun H locs ls hP hD hS hl => lv_tableOut S.1.1 S.1.2.1 hdg h ht (kk H locs ls hP hD hS hl)
theorem v_lookup (S : Fx p m c cc nL s args own meth rt G A) {dflt : Int} {ps : Array (Int × Int)} {len : Nat} {x : Int32} {off : Int} {tgt : Nat} (hdg : decode cc pc = .ok (.lookupswitch dflt ps, len)) (hq : (ps.toList.zip (ps.toList.drop 1)).all (fun (a, next) => a.1 < next.1) = true) (ho : Op.lookupswitch.offset ps.toList dflt x.toInt = off) (ht : (pc : Int) + off = (tgt : Int)) (kk : V p l e R s m args below meth c G A nL k n Q ws tgt lv st) : V p l e R s m args below meth c G A nL k n Q ws pc lv (.int x :: st) :=
  fun H locs ls hP hD hS hl => lv_lookup S.1.1 S.1.2.1 hdg hq ho ht (kk H locs ls hP hD hS hl)
theorem v_nm {x : Int32} (kk : ∀ y : Int32, y = x → V p l e R s m args below meth c G A nL k n Q ws pc lv (.int y :: st)) : V p l e R s m args below meth c G A nL k n Q ws pc lv (.int x :: st) := kk x rfl
theorem v_get (S : Fx p m c cc nL s args own meth rt G A) {index ci j : Nat} {a : Nat} {fs : List Value} {v : Value} (hf : GF own index ci j) (q0 : Nat) (he : ws[q0]? = some (a, .inr (ci, fs))) (hv : fs[j]? = some v) (hdg : decode cc pc = .ok (.getfield index, 3)) (hp : pc + 3 = pc2) (kk : V p l e R s m args below meth c G A nL k n Q ws pc2 lv (v :: st)) : V p l e R s m args below meth c G A nL k n Q ws pc lv (.ref a :: st) := by
  subst hp
  obtain ⟨C, T, N, hc, hin, hk, hl0⟩ := hf
  exact fun H locs ls hP hD hS hl => va_get (D := G.1) (Ts := ub) S.1.1 S.1.2.1 S.1.2.2.2.2 hin S.1.2.2.2.1 S.2.2.2.1 hP q0 he hc j hk (S.1.2.2.2.2 _ hl0) (fun _ h => h) hv hdg (kk H locs ls hP hD hS hl)
theorem v_getN (S : Fx p m c cc nL s args own meth rt G A) {index ci j : Nat} {a : Nat} {fs : List Value} {v : Value} (hf : GFN own index ci j) (q0 : Nat) (he : ws[q0]? = some (a, .inr (ci, fs))) (hv : fs[j]? = some v) (hdg : decode cc pc = .ok (.getfield index, 3)) (hp : pc + 3 = pc2) (kk : V p l e R s m args below meth c G A nL k n Q ws pc2 lv (v :: st)) : V p l e R s m args below meth c G A nL k n Q ws pc lv (.ref a :: st) := by
  subst hp
  obtain ⟨C, T, N, host, hc, hin, hk, hl0⟩ := hf
  exact fun H locs ls hP hD hS hl => va_getN (D := G.1) (Ts := ub) S.1.1 S.1.2.1 S.1.2.2.2.2 hin S.1.2.2.2.1 S.2.2.2.1 hP q0 he hc j hk (va_Nw.use rfl (S.2.2.2.2.1.1 _ hl0)) (fun _ h => h) hv hdg (kk H locs ls hP hD hS hl)
theorem v_put (S : Fx p m c cc nL s args own meth rt G A) {index ci j : Nat} {a : Nat} {fs : List Value} {v : Value} {ty : FieldType} (hf : GF own index ci j) (hg : PFc ci j false ty) (q0 : Nat) (he : ws[q0]? = some (a, .inr (ci, fs))) (hn : narrow ty v = v) (hfit : fits ty v = true) (hl1 : j < fs.length) (hw : ws.set q0 (a, .inr (ci, fs.set j v)) = ws2) (hdg : decode cc pc = .ok (.putfield index, 3)) (hp : pc + 3 = pc2) (kk : V p l e R s m args below meth c G A nL k n Q ws2 pc2 lv st) : V p l e R s m args below meth c G A nL k n Q ws pc lv (v :: .ref a :: st) := by
  subst hp; subst hw
  obtain ⟨C, T, N, hc, hin, hk, hl0⟩ := hf
  obtain ⟨C2, T2, N2, ty0, hc2, h1, h2, h3, h4, -⟩ := hg
  cases hc.symm.trans hc2
  exact fun H locs ls hP hD hS hl => va_put (D := G.1) (Ts := ub) S.1.1 S.1.2.1 S.1.2.2.2.2 hin ty0 h1 h2 S.1.2.2.2.1 S.2.2.2.1 hP hD hS q0 he hc j hk (S.1.2.2.2.2 _ hl0) (fun _ h => h) h3 h4 hn hfit hl1 hdg (fun H locs hP hD hS => kk H locs ls hP hD hS hl)
theorem v_putN (S : Fx p m c cc nL s args own meth rt G A) {index ci j : Nat} {a : Nat} {fs : List Value} {v : Value} {ty : FieldType} (hf : GFN own index ci j) (hg : PFc ci j false ty) (q0 : Nat) (he : ws[q0]? = some (a, .inr (ci, fs))) (hn : narrow ty v = v) (hfit : fits ty v = true) (hl1 : j < fs.length) (hw : ws.set q0 (a, .inr (ci, fs.set j v)) = ws2) (hdg : decode cc pc = .ok (.putfield index, 3)) (hp : pc + 3 = pc2) (kk : V p l e R s m args below meth c G A nL k n Q ws2 pc2 lv st) : V p l e R s m args below meth c G A nL k n Q ws pc lv (v :: .ref a :: st) := by
  subst hp; subst hw
  obtain ⟨C, T, N, host, hc, hin, hk, hl0⟩ := hf
  obtain ⟨C2, T2, N2, ty0, hc2, h1, h2, h3, h4, -⟩ := hg
  cases hc.symm.trans hc2
  exact fun H locs ls hP hD hS hl => va_putN (D := G.1) (Ts := ub) S.1.1 S.1.2.1 S.1.2.2.2.2 hin ty0 h1 h2 S.1.2.2.2.1 S.2.2.2.1 hP hD hS q0 he hc j hk (va_Nw.use rfl (S.2.2.2.2.1.1 _ hl0)) (fun _ h => h) h3 h4 hn hfit hl1 hdg (fun H locs hP hD hS => kk H locs ls hP hD hS hl)
theorem v_putF (S : Fx p m c cc nL s args own meth rt G A) {index ci j : Nat} {a : Nat} {fs : List Value} {v : Value} {ty : FieldType} (hinit : meth.name = "<init>") (hf : GF own index ci j) (hg : PFc ci j true ty) (hcl : vwCl[ci]?.map (fun q => q.1) = some own) (q0 : Nat) (he : ws[q0]? = some (a, .inr (ci, fs))) (hn : narrow ty v = v) (hfit : fits ty v = true) (hl1 : j < fs.length) (hw : ws.set q0 (a, .inr (ci, fs.set j v)) = ws2) (hdg : decode cc pc = .ok (.putfield index, 3)) (hp : pc + 3 = pc2) (kk : V p l e R s m args below meth c G A nL k n Q ws2 pc2 lv st) : V p l e R s m args below meth c G A nL k n Q ws pc lv (v :: .ref a :: st) := by
  subst hp; subst hw
  obtain ⟨C, T, N, hc, hin, hk, hl0⟩ := hf
  obtain ⟨C2, T2, N2, ty0, hc2, h1, h2, h3, h4, h5⟩ := hg
  cases hc.symm.trans hc2
  rw [hc] at hcl
  have hC : C = own := Option.some.inj hcl
  exact fun H locs ls hP hD hS hl => va_putF (D := G.1) (Ts := ub) S.1.1 S.1.2.1 S.1.2.2.2.2 hin ty0 h1 h2 S.1.2.2.2.1 S.2.2.2.1 hP hD hS q0 he hc j hk (S.1.2.2.2.2 _ hl0) (fun _ h => h) h3 hinit (h5.trans hC) h4 hn hfit hl1 hdg (fun H locs hP hD hS => kk H locs ls hP hD hS hl)
theorem v_iald (S : Fx p m c cc nL s args own meth rt G A) {a N : Nat} {f : Nat → Int32} {i : Int32} (q0 : Nat) (he : ws[q0]? = some (a, .inl (G.2.1, N, .inl f))) (hin : vp_in i N) (hdg : decode cc pc = .ok (.iaload, 1)) (hp : pc + 1 = pc2) (kk : V p l e R s m args below meth c G A nL k n Q ws pc2 lv (.int (f i.toNatClampNeg) :: st)) : V p l e R s m args below meth c G A nL k n Q ws pc lv (.int i :: .ref a :: st) := by
  subst hp
  exact fun H locs ls hP hD hS hl => va_iald S.1.1 S.1.2.1 S.2.2.2.1 hP q0 0 he rfl hin hdg (kk H locs ls hP hD hS hl)
theorem v_iast (S : Fx p m c cc nL s args own meth rt G A) {a N : Nat} {f : Nat → Int32} {i x : Int32} (q0 : Nat) (he : ws[q0]? = some (a, .inl (G.2.1, N, .inl f))) (hin : vp_in i N) (hw : ws.set q0 (a, .inl (G.2.1, N, .inl (upd f i.toNatClampNeg x))) = ws2) (hdg : decode cc pc = .ok (.iastore, 1)) (hp : pc + 1 = pc2) (kk : V p l e R s m args below meth c G A nL k n Q ws2 pc2 lv st) : V p l e R s m args below meth c G A nL k n Q ws pc lv (.int x :: .int i :: .ref a :: st) := by
  subst hp; subst hw
  exact fun H locs ls hP hD hS hl => va_iast S.1.1 S.1.2.1 S.2.2.2.1 hP hD hS q0 0 he rfl hin hdg (fun H locs hP hD hS => kk H locs ls hP hD hS hl)
theorem v_alen (S : Fx p m c cc nL s args own meth rt G A) {a N : Nat} {f : Nat → Int32} {v : Int32} (q0 : Nat) (he : ws[q0]? = some (a, .inl (G.2.1, N, .inl f))) (hv : Int32.ofNat N = v) (hdg : decode cc pc = .ok (.arraylength, 1)) (hp : pc + 1 = pc2) (kk : V p l e R s m args below meth c G A nL k n Q ws pc2 lv (.int v :: st)) : V p l e R s m args below meth c G A nL k n Q ws pc lv (.ref a :: st) := by
  subst hp
  exact fun H locs ls hP hD hS hl => va_alen S.1.1 S.1.2.1 S.2.2.2.1 hP q0 0 he (ty := .int) rfl hv hdg (kk H locs ls hP hD hS hl)
theorem v_aald (S : Fx p m c cc nL s args own meth rt G A) {a N : Nat} {f : Nat → Option Nat} {i : Int32} {v : Value} (q0 : Nat) (he : ws[q0]? = some (a, .inl (G.2.2, N, .inr (.inr (.inr (.inr f)))))) (hin : vp_in i N) (hv : va_rf (f i.toNatClampNeg) = v) (hdg : decode cc pc = .ok (.aaload, 1)) (hp : pc + 1 = pc2) (kk : V p l e R s m args below meth c G A nL k n Q ws pc2 lv (v :: st)) : V p l e R s m args below meth c G A nL k n Q ws pc lv (.int i :: .ref a :: st) := by
  subst hp; subst hv
  exact fun H locs ls hP hD hS hl => va_aldq S.1.1 S.1.2.1 S.2.2.2.1 hP q0 1 he (C := RX5) rfl hin hdg (kk H locs ls hP hD hS hl)
theorem v_aast (S : Fx p m c cc nL s args own meth rt G A) {a N v : Nat} {f : Nat → Option Nat} {i : Int32} {vs : List Value} (q0 qk : Nat) (he : ws[q0]? = some (a, .inl (G.2.2, N, .inr (.inr (.inr (.inr f)))))) (hv : ws[qk]? = some (v, .inr (5, vs))) (hin : vp_in i N) (hw : ws.set q0 (a, .inl (G.2.2, N, .inr (.inr (.inr (.inr (va_up f i.toNatClampNeg (some v))))))) = ws2) (hdg : decode cc pc = .ok (.aastore, 1)) (hp : pc + 1 = pc2) (kk : V p l e R s m args below meth c G A nL k n Q ws2 pc2 lv st) : V p l e R s m args below meth c G A nL k n Q ws pc lv (.ref v :: .int i :: .ref a :: st) := by
  subst hp; subst hw
  exact fun H locs ls hP hD hS hl => va_astq S.1.1 S.1.2.1 S.2.2.2.1 hP hD hS q0 1 qk 5 he (r := (RX5, TX5, 4)) rfl hv rfl hin hdg (fun H locs hP hD hS => kk H locs ls hP hD hS hl)

theorem v_max (S : Fx p m c cc nL s args own meth rt G A) {index : Nat} {x y : Int32} (hlink : Cond.methodLink own index Lib.Math.max.name ∈ ub) (hstat : Cond.static Lib.Math.max.name ∈ ub) (hini : Cond.initialized "java/lang/Math" ∈ ub) (hcode : Cond.code Lib.Math.max.name Lib.Math.max.code 2 (some .int) ∈ ub) (hR : 1 ≤ R.frames) (hlo : (st.map fun v => v.category).sum + 13 ≤ R.locals) (hk : k ≤ R.cells) (hs : n ≤ R.slots) (hdg : decode cc pc = .ok (.invokestatic index, 3)) (hp : pc + 3 = pc2) (kk : V p l e R s m args below meth c G A nL k n Q ws pc2 lv (.int (if x < y then y else x) :: st)) : V p l e R s m args below meth c G A nL k n Q ws pc lv (.int y :: .int x :: st) := by
  subst hp
  exact fun H locs ls hP hD hS hl => va_mmax S.1.1 S.1.2.1 (S.1.2.2.1.trans hl.1.symm) S.1.2.2.2.1 (S.1.2.2.2.2 _ hlink) (S.1.2.2.2.2 _ hstat) (S.1.2.2.2.2 _ hini) (S.1.2.2.2.2 _ hcode) hR hlo hk hs hdg (kk H locs ls hP hD hS hl)
theorem v_min (S : Fx p m c cc nL s args own meth rt G A) {index : Nat} {x y : Int32} (hlink : Cond.methodLink own index Lib.Math.min.name ∈ ub) (hstat : Cond.static Lib.Math.min.name ∈ ub) (hini : Cond.initialized "java/lang/Math" ∈ ub) (hcode : Cond.code Lib.Math.min.name Lib.Math.min.code 2 (some .int) ∈ ub) (hR : 1 ≤ R.frames) (hlo : (st.map fun v => v.category).sum + 13 ≤ R.locals) (hk : k ≤ R.cells) (hs : n ≤ R.slots) (hdg : decode cc pc = .ok (.invokestatic index, 3)) (hp : pc + 3 = pc2) (kk : V p l e R s m args below meth c G A nL k n Q ws pc2 lv (.int (if y < x then y else x) :: st)) : V p l e R s m args below meth c G A nL k n Q ws pc lv (.int y :: .int x :: st) := by
  subst hp
  exact fun H locs ls hP hD hS hl => va_mmin S.1.1 S.1.2.1 (S.1.2.2.1.trans hl.1.symm) S.1.2.2.2.1 (S.1.2.2.2.2 _ hlink) (S.1.2.2.2.2 _ hstat) (S.1.2.2.2.2 _ hini) (S.1.2.2.2.2 _ hcode) hR hlo hk hs hdg (kk H locs ls hP hD hS hl)
theorem v_copy (S : Fx p m c cc nL s args own meth rt G A) {index : Nat} (q0 q1 : Nat) {a0 a1 n0 n1 : Nat} {f g : Nat → Int32} {sp dp d : Int32} (hlink : Cond.methodLink own index arraycopyName ∈ ub) (hnat : Cond.native arraycopyName ∈ ub) (hstat : Cond.static arraycopyName ∈ ub) (hini : Cond.initialized "java/lang/System" ∈ ub) (he0 : ws[q0]? = some (a0, .inl (G.2.1, n0, .inl f))) (he1 : ws[q1]? = some (a1, .inl (G.2.1, n1, .inl g))) (h1 : ¬ sp < 0) (h2 : ¬ dp < 0) (h3 : ¬ d < 0) (h4 : sp.toNatClampNeg + d.toNatClampNeg ≤ n0) (h5 : dp.toNatClampNeg + d.toNatClampNeg ≤ n1) (hR : 1 ≤ R.frames) (hlo : (st.map fun v => v.category).sum + (nativeFrameWords "java/lang/System" "arraycopy" 5 + 11) ≤ R.locals) (hw : ws.set q1 (a1, .inl (G.2.1, n1, .inl (va_cpy f g sp.toNatClampNeg dp.toNatClampNeg d.toNatClampNeg))) = ws2) (hdg : decode cc pc = .ok (.invokestatic index, 3)) (hp : pc + 3 = pc2) (kk : V p l e R s m args below meth c G A nL k n Q ws2 pc2 lv st) : V p l e R s m args below meth c G A nL k n Q ws pc lv (.int d :: .int dp :: .ref a1 :: .int sp :: .ref a0 :: st) := by
  subst hp; subst hw
  exact fun H locs ls hP hD hS hl => va_copyi S.1.1 S.1.2.1 (S.1.2.2.1.trans hl.1.symm) S.1.2.2.2.1 (S.1.2.2.2.2 _ hlink) (S.1.2.2.2.2 _ hnat) (S.1.2.2.2.2 _ hstat) (S.1.2.2.2.2 _ hini) S.2.2.2.1 hP hD hS q0 q1 0 0 he0 he1 (ty := .int) rfl rfl rfl h1 h2 h3 h4 h5 (fun _ _ => rfl) hR hlo hdg (fun H locs hP hD hS => kk H locs ls hP hD hS hl)
theorem v_objInit (S : Fx p m c cc nL s args own meth rt G A) {index a : Nat} (hlink : Cond.methodLink own index Lib.objectInit ∈ ub) (hinst : Cond.instanceMethod Lib.objectInit ∈ ub) (hcode : Cond.code Lib.objectInit ⟨#[0xb1]⟩ 1 none ∈ ub) (hR : 1 ≤ R.frames) (hlo : (st.map fun v => v.category).sum + 12 ≤ R.locals) (hdg : decode cc pc = .ok (.invokespecial index, 3)) (hp : pc + 3 = pc2) (kk : V p l e R s m args below meth c G A nL k n Q ws pc2 lv st) : V p l e R s m args below meth c G A nL k n Q ws pc lv (.ref a :: st) := by
  subst hp
  exact fun H locs ls hP hD hS hl => W.objInit S.1.1 S.1.2.1 S.1.2.2.2.1 (S.1.2.2.2.2 _ hlink) (S.1.2.2.2.2 _ hinst) (S.1.2.2.2.2 _ hcode) rfl (by rw [S.1.2.2.1]; exact hl.1) rfl hdg hR (by show 2 * 0 + _ + 12 ≤ _; omega) (kk H locs ls hP hD hS hl)
theorem v_new (S : Fx p m c cc nL s args own meth rt G A) {index ci N a : Nat} {C : String} {T : u_T} {fs : List Value} (ty : Nat → FieldType) (hty : ∀ j, j < N → parseFieldDescriptor (T j).2.2.1 = some (ty j)) (hc : vwCl[ci]? = some (C, T, N)) (hin : ∀ w ∈ u_ws C T N, w ∈ ub) (hcl : Cond.classLink own index C ∈ ub) (hinst : Cond.instantiable C N ∈ ub) (hini : Cond.initialized C ∈ ub) (hfs : ∀ j, j < N → defaultValue (ty j) = vp_V fs j) (hcells : k + 1 ≤ R.cells) (hslots : n + N ≤ R.slots) (hdg : decode cc pc = .ok (.new index, 3)) (hp : pc + 3 = pc2) (kk : ∀ q : Nat, V p l e R s m args below meth c G A nL (k + 1) (n + N) Q (ws ++ [(q, .inr (ci, fs))]) pc2 lv (.ref q :: st)) : V p l e R s m args below meth c G A nL k n Q ws pc lv st := by
  subst hp
  exact fun H locs ls hP hD hS hl => va_new (D := G.1) (Ts := ub) S.1.1 S.1.2.1 S.1.2.2.2.2 hin ty hty S.1.2.2.2.1 (S.1.2.2.2.2 _ hcl) (S.1.2.2.2.2 _ hinst) (S.1.2.2.2.2 _ hini) S.2.2.2.1 hP hD hS S.2.2.2.2.2 hc hfs hcells hslots hdg (fun q H hP hD hS => kk q H locs ls hP hD hS hl)
theorem v_newa (S : Fx p m c cc nL s args own meth rt G A) {d : Int32} {N : Nat} (harr : Cond.arrayClass .int ∈ ub) (hn : ¬ d < 0) (hN : d.toNatClampNeg = N) (hbytes : N * 4 ≤ 536870912) (hcells : k + 1 ≤ R.cells) (hslots : n + N ≤ R.slots) (hdg : decode cc pc = .ok (.newarray .int, 2)) (hp : pc + 2 = pc2) (kk : ∀ q : Nat, V p l e R s m args below meth c G A nL (k + 1) (n + N) Q (ws ++ [(q, .inl (G.2.1, N, .inl (fun _ => 0)))]) pc2 lv (.ref q :: st)) : V p l e R s m args below meth c G A nL k n Q ws pc lv (.int d :: st) := by
  subst hp
  intro H locs ls hP hD hS hl
  refine va_newaK S.1.1 S.1.2.1 (atype := .int) (S.1.2.2.2.2 _ harr) rfl hdg rfl hn hN hbytes hcells hslots rfl fun H1 cA e1 z1 o1 hAr hNm => ?_
  have hcA : cA = G.2.1 := Option.some.inj (hNm.symm.trans (S.2.2.2.1.2 0 _ rfl).2)
  subst hcA
  have hk : ∀ (j : Nat) (x : Nat × va_E), ws[j]? = some x → H1[x.1]? = H[x.1]? := fun j x hx => o1 x.1 ((hP j x hx).lt)
  refine kk H.size H1 locs ls ((hP.kept hk).app (fun j x hx => ?_)) (hD.push hP rfl (S.2.2.2.2.2 _ hS.1)) ⟨Nat.le_trans hS.1 (by omega), fun x h1 h2 => (o1 x (Nat.lt_of_lt_of_le h1 hS.1)).trans (hS.2.1 x h1 h2), hS.2.2⟩ hl
  have hz : j < 1 := (List.getElem?_eq_some_iff.mp hx).1
  rw [show j = 0 by omega] at hx
  cases hx
  show H1[H.size]? = some (vp_cell _ _)
  rw [e1]
  rfl

theorem v_newq (S : Fx p m c cc nL s args own meth rt G A) {index : Nat} {d : Int32} {N : Nat} (hcl : Cond.classLink own index RX5 ∈ ub) (hn : ¬ d < 0) (hN : d.toNatClampNeg = N) (hbytes : N * 4 ≤ 536870912) (hcells : k + 1 ≤ R.cells) (hslots : n + N ≤ R.slots) (hdg : decode cc pc = .ok (.anewarray index, 3)) (hp : pc + 3 = pc2) (kk : ∀ q : Nat, V p l e R s m args below meth c G A nL (k + 1) (n + N) Q (ws ++ [(q, .inl (G.2.2, N, .inr (.inr (.inr (.inr (fun _ => none))))))]) pc2 lv (.ref q :: st)) : V p l e R s m args below meth c G A nL k n Q ws pc lv (.int d :: st) := by
  subst hp
  intro H locs ls hP hD hS hl
  refine va_newq (D := G.1) (cl := vwCl) (tys := [(G.2.1, .int), (G.2.2, .object RX5)]) S.1.1 S.1.2.1 S.1.2.2.2.1 (S.1.2.2.2.2 _ hcl) S.2.2.2.2.1.2 S.2.2.2.1 hP hD hS S.2.2.2.2.2 hn hN hbytes hcells hslots hdg (fun q cA H1 hK1 hP1 hD1 hS1 => ?_)
  have hcA : cA = G.2.2 := by
    obtain ⟨kA, cm, _, _, _, h4⟩ := (S.2.2.2.1.2 1 _ rfl).2
    obtain ⟨kB, cn, _, _, _, g4⟩ := (hK1.2 2 _ rfl).2
    exact Option.some.inj (g4.symm.trans h4)
  subst hcA
  exact kk q H1 locs ls hP1 hD1 hS1 hl
theorem v_ctcase {z : Int32} : True := trivial

theorem con_call {av : List Value} {C Rs : va_W} {wf : va_W → va_W} {Pq : Option Value → va_W → Prop} {mc ms : Nat} {st0 rest : List Value} (S : Fx p m c cc nL s args own meth rt G A)
    (hrun : ∀ (H : Heap) (locs : List Loc) (ls : Array Slot), va_P G.1 vwCl C H → va_D (fun _ => True) C → ls.size = nL → va_Run p l e R s m args below meth c H locs k n mc ms (F0 m pc ls st0) rest (EQ G C H.size Pq av.toArray) (va_A C H.size))
    (hw : FrM ws C Rs wf) (hp : pc + 3 = pc2) (kk : ∀ v w, Pq v w → V p l e R s m args below meth c G A nL (k + mc) (n + ms) Q (wf w) pc2 lv (v.toList ++ rest)) : V p l e R s m args below meth c G A nL k n Q ws pc lv st0 := by
  subst hp
  intro H locs ls hP hD hS hl
  have hPp : va_P G.1 vwCl (C ++ Rs) H := va_P.perm hw.1 hP
  have hDp : va_D A (C ++ Rs) := va_D.perm hw.1 hD
  have hPc : va_P G.1 vwCl C H := va_P.left hPp
  have hDc := va_D.left hDp
  have hPr : va_P G.1 vwCl Rs H := va_P.right hPp
  have hDr : va_D A Rs := va_D.right hDp
  have hF : ∀ q, va_A C H.size q → A q := by
    rintro q (⟨j, x, hx⟩ | hq)
    · exact hDc.2 j (q, x) hx
    · exact S.2.2.2.2.2 q (Nat.le_trans hS.1 hq)
  have hr := hrun H locs ls hPc (hDc.weaken (fun _ _ _ _ => trivial)) hl.1
  intro T hT X
  obtain ⟨v, st₀, t, T', L, h0, X', hL, e1, e2, ⟨⟨v', w, hv, hq, hP1, hK1, hD1⟩, hz, hkeep⟩, hst⟩ := hr T hT X
  cases hv
  rw [h0] at hz hkeep
  rw [← e1] at hP1 hz hkeep
  have hap : ∀ (i : Nat) (x : Nat × va_E), Rs[i]? = some x → x.1 < H.size ∧ ¬ va_A C H.size x.1 := by
    intro i x hx
    have hlt := (hPr i x hx).lt
    refine ⟨hlt, ?_⟩
    rintro (⟨j, y2, hy⟩ | hq)
    · exact va_D.apart hDp hy hx rfl
    · omega
  have hPr1 : va_P G.1 vwCl Rs T'.heap := hPr.kept (fun i x hx => hkeep x.1 (hap i x hx).1 (hap i x hx).2)
  have hD2 : va_D A (w ++ Rs) := va_D.app (hD1.weaken (fun _ x _ h => hF x.1 h)) hDr (fun i j x y2 hx hy hxy => (hap j y2 hy).2 (by rw [← hxy]; exact hD1.2 i x hx))
  obtain ⟨t2, a1, b1⟩ := kk v w hq T'.heap (locs ++ L) ls (va_P.perm (hw.2 w) (va_P.app hP1 hPr1)) (va_D.perm (hw.2 w) hD2)
    ⟨Nat.le_trans hS.1 hz, fun q h1 h2 => by rw [hkeep q (Nat.lt_of_lt_of_le h1 hS.1) (fun z => h2 (hF q z))]; exact hS.2.1 q h1 h2, fun q hq2 => (List.mem_append.mp hq2).elim (hS.2.2 q) (fun h => hF _ (hL q h))⟩ hl T' rfl X'
  exact ⟨t2, hst t2 a1, b1⟩
theorem v_callS {y : MethodName} {b : ByteArray} {nL2 : Nat} {rt2 : Option FieldType} {rm2 : Room} {As : List Value} {C Rs : va_W} {wf : va_W → va_W} {Pq : Option Value → va_W → Prop} {mc ms index N : Nat} {st0 rest : List Value} (S : Fx p m c cc nL s args own meth rt G A)  (hC : Con l G y b nL2 rt2 rm2 (As) C Pq mc ms) (F : MF y b nL2 rt2 N) (hlink : Cond.methodLink own index y ∈ ub) (hstat : Cond.static y ∈ ub) (hst0 : st0 = As.reverse ++ rest) (hn : As.length = N) (hm : rm2.cells = mc ∧ rm2.slots = ms) (hR : rm2.frames + 1 ≤ R.frames ∧ 8 + (nL2 + 11) + rm2.locals ≤ R.locals) (hcs : k + mc ≤ R.cells ∧ n + ms ≤ R.slots) (hcat : (rest.map fun v => v.category).sum ≤ 8) (hdg : decode cc pc = .ok (.invokestatic index, 3))
    (hw : FrM ws C Rs wf) (hp : pc + 3 = pc2) (kk : ∀ v w, Pq v w → V p l e R s m args below meth c G A nL (k + mc) (n + ms) Q (wf w) pc2 lv (v.toList ++ rest)) : V p l e R s m args below meth c G A nL k n Q ws pc lv st0 := by
  subst hst0
  exact con_call S (av := As) (fun H locs ls hP hD hsz => va_runS S.1 (hC H.size) (⟨callB_of N S.1.2.2.2.2 (ub_cons F.1) rfl hm.1 hm.2 (S.1.2.2.2.2 _ F.2.1) (S.1.2.2.2.2 _ hlink) F.2.2 hR, S.1.2.2.2.2 _ hstat⟩) ⟨fun a U g mk q => ⟨q.1, q.2.1, q.2.2.1, va_K.moved (u := U) (U := U.calling g mk a) (Vm.Alike.refl U.vm) q.2.2.2.1, q.2.2.2.2.1, q.2.2.2.2.2.calling⟩, fun U hU hW => ⟨rfl, by rw [hU], by rw [hU]; exact hP, va_K.moved hW.alike S.2.2.2.1, hD, NW.warm hW S.2.2.2.2.1⟩⟩ rfl hn hsz rfl (lv_room hcat) hdg hcs) hw hp kk
theorem v_callSN {y : MethodName} {b : ByteArray} {nL2 : Nat} {rt2 : Option FieldType} {rm2 : Room} {As : List Value} {C Rs : va_W} {wf : va_W → va_W} {Pq : Option Value → va_W → Prop} {mc ms index N : Nat} {st0 rest : List Value} (S : Fx p m c cc nL s args own meth rt G A)  {host : String} (hC : Con l G y b nL2 rt2 rm2 (As) C Pq mc ms) (F : MF y b nL2 rt2 N) (hlink : Cond.methodLinkNest own index y host ∈ nwL) (hstat : Cond.static y ∈ ub) (hst0 : st0 = As.reverse ++ rest) (hn : As.length = N) (hm : rm2.cells = mc ∧ rm2.slots = ms) (hR : rm2.frames + 1 ≤ R.frames ∧ 8 + (nL2 + 11) + rm2.locals ≤ R.locals) (hcs : k + mc ≤ R.cells ∧ n + ms ≤ R.slots) (hcat : (rest.map fun v => v.category).sum ≤ 8) (hdg : decode cc pc = .ok (.invokestatic index, 3))
    (hw : FrM ws C Rs wf) (hp : pc + 3 = pc2) (kk : ∀ v w, Pq v w → V p l e R s m args below meth c G A nL (k + mc) (n + ms) Q (wf w) pc2 lv (v.toList ++ rest)) : V p l e R s m args below meth c G A nL k n Q ws pc lv st0 := by
  subst hst0
  exact con_call S (av := As) (fun H locs ls hP hD hsz => va_runSN S.1 (hC H.size) (⟨va_cnB N S.1.2.2.2.2 (ub_cons F.1) rfl hm.1 hm.2 (S.2.2.2.2.1.1 _ hlink) (S.1.2.2.2.2 _ F.2.1) F.2.2 hR, S.1.2.2.2.2 _ hstat, trivial⟩) ⟨fun a U g mk q => ⟨q.1, q.2.1, q.2.2.1, va_K.moved (u := U) (U := U.calling g mk a) (Vm.Alike.refl U.vm) q.2.2.2.1, q.2.2.2.2.1, q.2.2.2.2.2.calling⟩, fun U hU hW => ⟨rfl, by rw [hU], by rw [hU]; exact hP, va_K.moved hW.alike S.2.2.2.1, hD, NW.warm hW S.2.2.2.2.1⟩⟩ rfl hn hsz rfl (lv_room hcat) hdg hcs) hw hp kk
theorem v_callV {y : MethodName} {b : ByteArray} {nL2 : Nat} {rt2 : Option FieldType} {rm2 : Room} {As : List Value} {C Rs : va_W} {wf : va_W → va_W} {Pq : Option Value → va_W → Prop} {mc ms index N : Nat} {st0 rest : List Value} (S : Fx p m c cc nL s args own meth rt G A) {bq : Nat} {cn : String} {fs : List Value} (hC : Con l G y b nL2 rt2 rm2 (.ref bq :: As) C Pq mc ms) (F : MF y b nL2 rt2 N) (hlink : Cond.methodLink own index y ∈ ub) (hinst : Cond.instanceMethod y ∈ ub) (hsel : Cond.selects cn y y ∈ ub) (qr ci : Nat) (hcn : vwCl[ci]?.map (fun q => q.1) = some cn) (hrc : C[qr]? = some (bq, .inr (ci, fs))) (hst0 : st0 = As.reverse ++ .ref bq :: rest) (hn : As.length = N) (hm : rm2.cells = mc ∧ rm2.slots = ms) (hR : rm2.frames + 1 ≤ R.frames ∧ 8 + (nL2 + 11) + rm2.locals ≤ R.locals) (hcs : k + mc ≤ R.cells ∧ n + ms ≤ R.slots) (hcat : (rest.map fun v => v.category).sum ≤ 8) (hdg : decode cc pc = .ok (.invokevirtual index, 3))
    (hw : FrM ws C Rs wf) (hp : pc + 3 = pc2) (kk : ∀ v w, Pq v w → V p l e R s m args below meth c G A nL (k + mc) (n + ms) Q (wf w) pc2 lv (v.toList ++ rest)) : V p l e R s m args below meth c G A nL k n Q ws pc lv st0 := by
  subst hst0
  have hrecv : ∀ H : Heap, va_P G.1 vwCl C H → ∃ cell : Cell, H[bq]? = some cell ∧ cell.vm.isStatics = false ∧ s.vm.findClass cn = some cell.cls := by
    intro H hP
    obtain ⟨r, hr1, hr2⟩ : ∃ r, vwCl[ci]? = some r ∧ r.1 = cn := by
      cases hz : vwCl[ci]? with
      | none => rw [hz] at hcn; cases hcn
      | some r => rw [hz] at hcn; exact ⟨r, rfl, Option.some.inj hcn⟩
    have h9 := va_recv S.2.2.2.1 hP hr1 hrc
    rw [hr2] at h9
    exact h9
  exact con_call S (av := .ref bq :: As) (fun H locs ls hP hD hsz => va_runV S.1 (hC H.size) (⟨callB_of N S.1.2.2.2.2 (ub_cons F.1) rfl hm.1 hm.2 (S.1.2.2.2.2 _ F.2.1) (S.1.2.2.2.2 _ hlink) F.2.2 hR, S.1.2.2.2.2 _ hinst, S.1.2.2.2.2 _ hsel⟩) ⟨fun a U g mk q => ⟨q.1, q.2.1, q.2.2.1, va_K.moved (u := U) (U := U.calling g mk a) (Vm.Alike.refl U.vm) q.2.2.2.1, q.2.2.2.2.1, q.2.2.2.2.2.calling⟩, hrecv H hP, fun U hU hW => ⟨rfl, by rw [hU], by rw [hU]; exact hP, va_K.moved hW.alike S.2.2.2.1, hD, NW.warm hW S.2.2.2.2.1⟩⟩ rfl hn hsz rfl (lv_room hcat) hdg hcs) hw hp kk
theorem v_callVN {y : MethodName} {b : ByteArray} {nL2 : Nat} {rt2 : Option FieldType} {rm2 : Room} {As : List Value} {C Rs : va_W} {wf : va_W → va_W} {Pq : Option Value → va_W → Prop} {mc ms index N : Nat} {st0 rest : List Value} (S : Fx p m c cc nL s args own meth rt G A) {bq : Nat} {cn : String} {fs : List Value} {host : String} (hC : Con l G y b nL2 rt2 rm2 (.ref bq :: As) C Pq mc ms) (F : MF y b nL2 rt2 N) (hlink : Cond.methodLinkNest own index y host ∈ nwL) (hinst : Cond.instanceMethod y ∈ ub) (hsel : Cond.selects cn y y ∈ ub) (qr ci : Nat) (hcn : vwCl[ci]?.map (fun q => q.1) = some cn) (hrc : C[qr]? = some (bq, .inr (ci, fs))) (hst0 : st0 = As.reverse ++ .ref bq :: rest) (hn : As.length = N) (hm : rm2.cells = mc ∧ rm2.slots = ms) (hR : rm2.frames + 1 ≤ R.frames ∧ 8 + (nL2 + 11) + rm2.locals ≤ R.locals) (hcs : k + mc ≤ R.cells ∧ n + ms ≤ R.slots) (hcat : (rest.map fun v => v.category).sum ≤ 8) (hdg : decode cc pc = .ok (.invokevirtual index, 3))
    (hw : FrM ws C Rs wf) (hp : pc + 3 = pc2) (kk : ∀ v w, Pq v w → V p l e R s m args below meth c G A nL (k + mc) (n + ms) Q (wf w) pc2 lv (v.toList ++ rest)) : V p l e R s m args below meth c G A nL k n Q ws pc lv st0 := by
  subst hst0
  have hrecv : ∀ H : Heap, va_P G.1 vwCl C H → ∃ cell : Cell, H[bq]? = some cell ∧ cell.vm.isStatics = false ∧ s.vm.findClass cn = some cell.cls := by
    intro H hP
    obtain ⟨r, hr1, hr2⟩ : ∃ r, vwCl[ci]? = some r ∧ r.1 = cn := by
      cases hz : vwCl[ci]? with
      | none => rw [hz] at hcn; cases hcn
      | some r => rw [hz] at hcn; exact ⟨r, rfl, Option.some.inj hcn⟩
    have h9 := va_recv S.2.2.2.1 hP hr1 hrc
    rw [hr2] at h9
    exact h9
  exact con_call S (av := .ref bq :: As) (fun H locs ls hP hD hsz => va_runVN S.1 (hC H.size) (⟨va_cnB N S.1.2.2.2.2 (ub_cons F.1) rfl hm.1 hm.2 (S.2.2.2.2.1.1 _ hlink) (S.1.2.2.2.2 _ F.2.1) F.2.2 hR, S.1.2.2.2.2 _ hinst, S.1.2.2.2.2 _ hsel⟩) ⟨fun a U g mk q => ⟨q.1, q.2.1, q.2.2.1, va_K.moved (u := U) (U := U.calling g mk a) (Vm.Alike.refl U.vm) q.2.2.2.1, q.2.2.2.2.1, q.2.2.2.2.2.calling⟩, hrecv H hP, fun U hU hW => ⟨rfl, by rw [hU], by rw [hU]; exact hP, va_K.moved hW.alike S.2.2.2.1, hD, NW.warm hW S.2.2.2.2.1⟩⟩ rfl hn hsz rfl (lv_room hcat) hdg hcs) hw hp kk
theorem v_callI {y : MethodName} {b : ByteArray} {nL2 : Nat} {rt2 : Option FieldType} {rm2 : Room} {As : List Value} {C Rs : va_W} {wf : va_W → va_W} {Pq : Option Value → va_W → Prop} {mc ms index N : Nat} {st0 rest : List Value} (S : Fx p m c cc nL s args own meth rt G A) {bq : Nat} (hC : Con l G y b nL2 none rm2 (.ref bq :: As) C Pq mc ms) (F : MF y b nL2 none N) (hlink : Cond.methodLink own index y ∈ ub) (hinst : Cond.instanceMethod y ∈ ub) (hnm : y.name = "<init>") (hst0 : st0 = As.reverse ++ .ref bq :: rest) (hn : As.length = N) (hm : rm2.cells = mc ∧ rm2.slots = ms) (hR : rm2.frames + 1 ≤ R.frames ∧ 8 + (nL2 + 11) + rm2.locals ≤ R.locals) (hcs : k + mc ≤ R.cells ∧ n + ms ≤ R.slots) (hcat : (rest.map fun v => v.category).sum ≤ 8) (hdg : decode cc pc = .ok (.invokespecial index, 3))
    (hw : FrM ws C Rs wf) (hp : pc + 3 = pc2) (kk : ∀ v w, Pq v w → V p l e R s m args below meth c G A nL (k + mc) (n + ms) Q (wf w) pc2 lv (v.toList ++ rest)) : V p l e R s m args below meth c G A nL k n Q ws pc lv st0 := by
  subst hst0
  exact con_call S (av := .ref bq :: As) (fun H locs ls hP hD hsz => va_runI S.1 (hC H.size) (⟨callB_of N S.1.2.2.2.2 (ub_cons F.1) rfl hm.1 hm.2 (S.1.2.2.2.2 _ F.2.1) (S.1.2.2.2.2 _ hlink) F.2.2 hR, hnm, S.1.2.2.2.2 _ hinst⟩) ⟨fun a U g mk q => ⟨q.1, q.2.1, q.2.2.1, va_K.moved (u := U) (U := U.calling g mk a) (Vm.Alike.refl U.vm) q.2.2.2.1, q.2.2.2.2.1, q.2.2.2.2.2.calling⟩, fun U hU hW => ⟨rfl, by rw [hU], by rw [hU]; exact hP, va_K.moved hW.alike S.2.2.2.1, hD, NW.warm hW S.2.2.2.2.1⟩⟩ rfl hn hsz rfl (lv_room hcat) hdg hcs) hw hp kk
theorem v_callIN {y : MethodName} {b : ByteArray} {nL2 : Nat} {rt2 : Option FieldType} {rm2 : Room} {As : List Value} {C Rs : va_W} {wf : va_W → va_W} {Pq : Option Value → va_W → Prop} {mc ms index N : Nat} {st0 rest : List Value} (S : Fx p m c cc nL s args own meth rt G A) {bq : Nat} {host : String} (hC : Con l G y b nL2 none rm2 (.ref bq :: As) C Pq mc ms) (F : MF y b nL2 none N) (hlink : Cond.methodLinkNest own index y host ∈ nwL) (hinst : Cond.instanceMethod y ∈ ub) (hnm : y.name = "<init>") (hst0 : st0 = As.reverse ++ .ref bq :: rest) (hn : As.length = N) (hm : rm2.cells = mc ∧ rm2.slots = ms) (hR : rm2.frames + 1 ≤ R.frames ∧ 8 + (nL2 + 11) + rm2.locals ≤ R.locals) (hcs : k + mc ≤ R.cells ∧ n + ms ≤ R.slots) (hcat : (rest.map fun v => v.category).sum ≤ 8) (hdg : decode cc pc = .ok (.invokespecial index, 3))
    (hw : FrM ws C Rs wf) (hp : pc + 3 = pc2) (kk : ∀ v w, Pq v w → V p l e R s m args below meth c G A nL (k + mc) (n + ms) Q (wf w) pc2 lv (v.toList ++ rest)) : V p l e R s m args below meth c G A nL k n Q ws pc lv st0 := by
  subst hst0
  exact con_call S (av := .ref bq :: As) (fun H locs ls hP hD hsz => va_runIN S.1 (hC H.size) (⟨va_cnB N S.1.2.2.2.2 (ub_cons F.1) rfl hm.1 hm.2 (S.2.2.2.2.1.1 _ hlink) (S.1.2.2.2.2 _ F.2.1) F.2.2 hR, hnm, S.1.2.2.2.2 _ hinst⟩) ⟨fun a U g mk q => ⟨q.1, q.2.1, q.2.2.1, va_K.moved (u := U) (U := U.calling g mk a) (Vm.Alike.refl U.vm) q.2.2.2.1, q.2.2.2.2.1, q.2.2.2.2.2.calling⟩, fun U hU hW => ⟨rfl, by rw [hU], by rw [hU]; exact hP, va_K.moved hW.alike S.2.2.2.1, hD, NW.warm hW S.2.2.2.2.1⟩⟩ rfl hn hsz rfl (lv_room hcat) hdg hcs) hw hp kk
theorem v_iret {C : va_W} {sz : Nat} {Pq : Option Value → va_W → Prop} {v : Int32} (S : Fx p m c cc nL s args own meth (some .int) G (va_A C sz)) (hq : Pq (some (.int v)) ws) (hdg : decode cc pc = .ok (.ireturn, 1)) : V p l e R s m args below meth c G (va_A C sz) nL k n (MQ below (EQ G C sz Pq) args s k n (va_A C sz)) ws pc lv [.int v] :=
  fun H locs ls hP hD hS hl => W.iret (v := v) S.1.1 S.1.2.1 S.2.1 (fun t ht hW => ⟨⟨_, ws, rfl, hq, by rw [ht]; exact hP, va_K.moved hW.alike S.2.2.2.1, hD⟩, hS.F ht⟩) hS.2.2 hdg (hlocks := S.2.2.1)
theorem v_zret {C : va_W} {sz : Nat} {Pq : Option Value → va_W → Prop} {v : Int32} (S : Fx p m c cc nL s args own meth (some .boolean) G (va_A C sz)) (hn : narrow .boolean (.int v) = .int v) (hq : Pq (some (.int v)) ws) (hdg : decode cc pc = .ok (.ireturn, 1)) : V p l e R s m args below meth c G (va_A C sz) nL k n (MQ below (EQ G C sz Pq) args s k n (va_A C sz)) ws pc lv [.int v] :=
  fun H locs ls hP hD hS hl => W.zret (v := v) S.1.1 S.1.2.1 S.2.1 hn (fun t ht hW => ⟨⟨_, ws, rfl, hq, by rw [ht]; exact hP, va_K.moved hW.alike S.2.2.2.1, hD⟩, hS.F ht⟩) hS.2.2 hdg (hlocks := S.2.2.1)
theorem v_dret {C : va_W} {sz : Nat} {Pq : Option Value → va_W → Prop} {v : UInt64} (S : Fx p m c cc nL s args own meth (some .double) G (va_A C sz)) (hq : Pq (some (.double v)) ws) (hdg : decode cc pc = .ok (.dreturn, 1)) : V p l e R s m args below meth c G (va_A C sz) nL k n (MQ below (EQ G C sz Pq) args s k n (va_A C sz)) ws pc lv [.double v] :=
  fun H locs ls hP hD hS hl => W.dret (v := v) S.1.1 S.1.2.1 S.2.1 (fun t ht hW => ⟨⟨_, ws, rfl, hq, by rw [ht]; exact hP, va_K.moved hW.alike S.2.2.2.1, hD⟩, hS.F ht⟩) hS.2.2 hdg (hlocks := S.2.2.1)
theorem v_vret {C : va_W} {sz : Nat} {Pq : Option Value → va_W → Prop} (S : Fx p m c cc nL s args own meth none G (va_A C sz)) (hq : Pq none ws) (hdg : decode cc pc = .ok (.return_, 1)) : V p l e R s m args below meth c G (va_A C sz) nL k n (MQ below (EQ G C sz Pq) args s k n (va_A C sz)) ws pc lv [] :=
  fun H locs ls hP hD hS hl => W.vret S.1.1 S.1.2.1 S.2.1 (fun t ht hW => ⟨⟨_, ws, rfl, hq, by rw [ht]; exact hP, va_K.moved hW.alike S.2.2.2.1, hD⟩, hS.F ht⟩) hS.2.2 hdg (hlocks := S.2.2.1)
theorem v_aret {C : va_W} {sz : Nat} {Pq : Option Value → va_W → Prop} {nm : String} {v : Nat} (S : Fx p m c cc nL s args own meth (some (.object nm)) G (va_A C sz)) (hq : Pq (some (.ref v)) ws) (hdg : decode cc pc = .ok (.areturn, 1)) : V p l e R s m args below meth c G (va_A C sz) nL k n (MQ below (EQ G C sz Pq) args s k n (va_A C sz)) ws pc lv [.ref v] :=
  fun H locs ls hP hD hS hl => W.aret (v := .ref v) S.1.1 S.1.2.1 S.2.1 (Or.inl ⟨_, rfl⟩) (Or.inr ⟨_, rfl⟩) (fun t ht hW => ⟨⟨_, ws, rfl, hq, by rw [ht]; exact hP, va_K.moved hW.alike S.2.2.2.1, hD⟩, hS.F ht⟩) hS.2.2 hdg (hlocks := S.2.2.1)
theorem v_perm (ws2 : va_W) (h : ws.Perm ws2) (kk : V p l e R s m args below meth c G A nL k n Q ws2 pc lv st) : V p l e R s m args below meth c G A nL k n Q ws pc lv st :=
  fun H locs ls hP hD hS hl => kk H locs ls (va_P.perm h hP) (va_D.perm h hD) hS hl
end VRows
theorem con_of {l : Launch} {G : GG} {y : MethodName} {b : ByteArray} {nL : Nat} {rt : Option FieldType} {rm : Room} {av : List Value} {C : va_W} {Pq : Option Value → va_W → Prop} {mc ms : Nat} (own : String) (ho : y.cls = own) (hpn : plainName y.cls = true) (lv0 : List (Nat × Value)) (hlv : lv_args 0 av = lv0) (hle : (lg_sl av).length ≤ nL)
    (body : ∀ (p : Program) (e : Env) (s : State) (m : MethodId) (args : Array Value) (below : List Frame) (meth : Method) (c : Code), Fx p m c b nL s args own meth rt G (va_A C s.heap.size) → meth.name = y.name → V p l e rm s m args below meth c G (va_A C s.heap.size) nL 0 0 (MQ below (EQ G C s.heap.size Pq) args s mc ms (va_A C s.heap.size)) C 0 lv0 []) : Con l G y b nL rt rm av C Pq mc ms := by
  intro sz
  refine Met.ofW (cc := b) (maxL := nL) (ret := rt) hpn rfl ?_
  intro p e s m args below meth c s₁ B hml hv
  obtain ⟨rfl, hsz, hP, hK, hD0, hN⟩ := hv
  subst hsz
  have hts := atoms_spec (ws := .code y b nL rt :: ub) B.pre
  have hl := lv_entry av (n := nL) hle
  rw [lg_entry_eq]
  rw [hlv] at hl
  exact body p e s m av.toArray below meth c ⟨⟨B.exec, B.bytes, hml, by rw [← ho]; exact findClass_of_methodNamed B.named, fun w h => hts w (List.mem_cons_of_mem _ h)⟩, B.returns, B.notSynchronized, hK, hN, fun q h => Or.inr h⟩ (name_of_methodNamed B.named B.method).1 s.heap [] _ hP (hD0.self) va_S.rf hl
