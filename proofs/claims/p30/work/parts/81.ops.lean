/-! PURE: the class's object and a state in plain numbers; its calls -/
def rSn (t : Int32) (s : StV) : Option SS2 → Prop
  | none => t = 0
  | some τ => t = 1 ∧ rSt s τ
def RC (v : CDV) (σ : SS2) (hs : Nat → SS2) (k : Nat) (sn : Option SS2) : Prop := rSt v.1 σ ∧ rHist v.2.1 hs k ∧ rSn v.2.2.2.1 v.2.2.1 sn ∧ v.2.2.2.2.1.2 = 0
section Ops
variable {v : CDV} {σ : SS2} {hs : Nat → SS2} {k d g o n : Nat} {sn : Option SS2} {Q : Int32 → CDV → Prop} {i j l : Int32}
theorem t_open (R : RC v σ hs k sn) (hd : d < 10) (hQ : ∀ v', RC v' (oU σ (rsn σ.1 σ.2.1 d) d) (pushH hs k σ) (pushK k) sn → Q (nI (oA σ (rsn σ.1 σ.2.1 d) d)) v') : wp_X8_open v (nI d) Q :=
  d8t hd ⟨fun _ => s_record R.1 R.2.1 (fun u hu => s_servantOpens R.1 hd (fun v' hv' => hQ _ ⟨hv', hu, R.2.2⟩)), fun z => absurd z one0⟩
theorem t_shut (R : RC v σ hs k sn) (hd : d < 10) (hQ : ∀ v', RC v' (sU σ (if σ.2.1.testBit d then 0 else 3) d) (pushH hs k σ) (pushK k) sn → Q (nI (sA (if σ.2.1.testBit d then 0 else 3))) v') : wp_X8_shut v (nI d) Q :=
  d8t hd ⟨fun _ => s_record R.1 R.2.1 (fun u hu => s_servantShuts R.1 hd (fun v' hv' => hQ _ ⟨hv', hu, R.2.2⟩)), fun z => absurd z one0⟩
theorem t_guestOpens (R : RC v σ hs k sn) (hg : g < 3) (hd : d < 10) (hQ : ∀ v', RC v' (oU σ (rsnG σ g d) d) (pushH hs k σ) (pushK k) sn → Q (nI (oA σ (rsnG σ g d) d)) v') : wp_X8_guestOpens v (nI g) (nI d) Q :=
  g8t hg ⟨fun z => absurd z one0, fun _ => d8t hd ⟨fun _ => s_record R.1 R.2.1 (fun u hu => s_opensAsGuest R.1 hg hd (fun v' hv' => hQ _ ⟨hv', hu, R.2.2⟩)), fun z => absurd z one0⟩⟩
theorem t_guestShuts (R : RC v σ hs k sn) (hg : g < 3) (hd : d < 10) (hQ : ∀ v', RC v' (sU σ (rsnU σ g d) d) (pushH hs k σ) (pushK k) sn → Q (nI (sA (rsnU σ g d))) v') : wp_X8_guestShuts v (nI g) (nI d) Q :=
  g8t hg ⟨fun z => absurd z one0, fun _ => d8t hd ⟨fun _ => s_record R.1 R.2.1 (fun u hu => s_shutsAsGuest R.1 hg hd (fun v' hv' => hQ _ ⟨hv', hu, R.2.2⟩)), fun z => absurd z one0⟩⟩
theorem t_walk (R : RC v σ hs k sn) (hg : g < 3) (hd : d < 10) (hQ : ∀ v', RC v' (wU σ g d) (pushH hs k σ) (pushK k) sn → Q (nI (wA σ g d)) v') : wp_X8_walk v (nI g) (nI d) Q :=
  g8t hg ⟨fun z => absurd z one0, fun _ => d8t hd ⟨fun _ => s_record R.1 R.2.1 (fun u hu => s_walksThrough R.1 hg hd (fun v' hv' => hQ _ ⟨hv', hu, R.2.2⟩)), fun z => absurd z one0⟩⟩
theorem t_cord {b : Int32} (R : RC v σ hs k sn) (hd : d < 10) (ho : o ≤ 10) (hE : (o = d ∨ (¬ o = 10 ∧ (if b = 0 then σ.1.2.1 d else σ.1.1 d) = o)) → Q (-1) v) (hQ : ¬ (o = d ∨ (¬ o = 10 ∧ (if b = 0 then σ.1.2.1 d else σ.1.1 d) = o)) → ∀ v', RC v' (lcS σ d (decide (¬ b = 0)) o) (pushH hs k σ) (pushK k) sn → Q (nI (lcA σ d o)) v') : wp_X8_cord v (nI d) b (nI o) Q := by
  have hok := R.1.1
  have hcd := hok.1.1 d hd
  refine d8t hd ⟨fun z => absurd z one0, fun _ => ?_⟩
  have b20 : wp_X8_cord_B20 (nI d) b (nI o) v Q := by
    unfold wp_X8_cord_B20
    rw [q_eq (by omega) (by omega)]
    refine ⟨fun hne => ?_, fun he => hE (Or.inl he)⟩
    have b59 : (¬ o = 10 → (if b = 0 then σ.1.2.1 d else σ.1.1 d) ≠ o) → wp_X8_cord_B59 (nI d) b (nI o) v Q := by
      intro hcl
      refine s_record R.1 R.2.1 (fun u hu => s_laysCord R.1 hd ho hne hcl (fun v' hv' => hQ ?_ _ ⟨hv', hu, R.2.2⟩))
      rintro (h | ⟨h1, h2⟩)
      · exact hne h
      · exact hcl h1 h2
    have e10 : (nI o = (10 : Int32)) = (o = 10) := by rw [l10, q_eq (by omega) (by decide)]
    rw [e10]
    refine ⟨fun z => b59 (fun y => absurd z y), fun z => ⟨fun hb => s_cordOf R.1.2.1 hd ?_, fun hb => s_cordOf R.1.2.1 hd ?_⟩⟩
    · rw [if_pos rfl, q_eq (by omega) (by omega)]
      refine ⟨fun y => b59 (fun _ => ?_), fun y => hE (Or.inr ⟨z, ?_⟩)⟩
      · rw [if_neg hb]; exact fun x => y x.symm
      · rw [if_neg hb]; exact y.symm
    · rw [if_neg (by decide), q_eq (by omega) (by omega)]
      refine ⟨fun y => b59 (fun _ => ?_), fun y => hE (Or.inr ⟨z, ?_⟩)⟩
      · rw [if_pos hb]; exact fun x => y x.symm
      · rw [if_pos hb]; exact y.symm
  by_cases h10 : o = 10
  · subst h10
    exact d8f (Or.inr (ge_self _)) ⟨fun z => absurd rfl z, fun _ => ⟨fun z => absurd rfl z, fun _ => b20⟩⟩
  · exact d8t (by omega) ⟨fun _ => b20, fun z => absurd z one0⟩
def joS (σ : SS2) (d o1 o2 : Nat) : SS2 := (setH σ.1 d o1 o2, σ.2)
theorem t_join {o1 o2 : Nat} (R : RC v σ hs k sn) (hd : d < 10) (h1 : o1 < 6) (h2 : o2 < 6) (hne : o1 ≠ o2) (hE : σ.2.1.testBit d = true → Q (-2) v) (hQ : σ.2.1.testBit d = false → ∀ v', RC v' (joS σ d o1 o2) (pushH hs k σ) (pushK k) sn → Q (nI (10 * min (σ.1.2.2.1 d) (σ.1.2.2.2.1 d) + max (σ.1.2.2.1 d) (σ.1.2.2.2.1 d))) v') : wp_X8_join v (nI d) (nI o1) (nI o2) Q := by
  have hok := R.1.1
  refine d8t hd ⟨fun z => absurd z one0, fun _ => h8t h1 ⟨fun z => absurd z one0, fun _ => h8t h2 ⟨fun z => absurd z one0, fun _ => ?_⟩⟩⟩
  rw [q_eq (by omega) (by omega)]
  refine ⟨fun _ => s_isOpen R.1 (by omega) ?_, fun z => absurd z hne⟩
  cases hb : σ.2.1.testBit d
  · refine ⟨fun _ => s_record R.1 R.2.1 (fun u hu => s_lesserHall R.1.2.1 hd (s_greaterHall R.1.2.1 hd ?_)), fun z => absurd rfl z⟩
    rintro _ rfl
    refine s_hangL R.1.2.1 hd h1 h2 hne (fun v' hv' => ?_)
    rw [l10, q_mul, nI_add]
    refine hQ hb _ ⟨⟨⟨okL_setH hok.1 h1 h2 hne, hok.2.1, ?_, hok.2.2.2⟩, hv', R.1.2.2⟩, hu, R.2.2⟩
    show held (setH σ.1 d o1 o2) σ.2.1 &&& σ.2.1 = 0
    rw [held_cords (L := σ.1) (L' := setH σ.1 d o1 o2) (fun d => rfl)]
    exact hok.2.2.1
  · exact ⟨fun z => absurd z one0, fun _ => hE hb⟩
def keS (σ : SS2) (g n : Nat) : SS2 := (σ.1, σ.2.1, (σ.2.2.1.1, updN σ.2.2.1.2.1 g n, σ.2.2.1.2.2), σ.2.2.2)
theorem t_keys (R : RC v σ hs k sn) (hg : g < 3) (hn : n < 1024) (hQ : ∀ v', RC v' (keS σ g n) (pushH hs k σ) (pushK k) sn → Q (nI (σ.2.2.1.2.1 g)) v') : wp_X8_keys v (nI g) (nI n) Q := by
  have hok := R.1.1
  have hG := R.1.2.2.1
  refine g8t hg ⟨fun z => absurd z one0, fun _ => t8t hn ⟨fun _ => s_record R.1 R.2.1 (fun u hu => ?_), fun z => absurd z one0⟩⟩
  rw [q_in (by omega), nI_clamp (by omega)]
  refine ⟨hg, ?_⟩
  rintro _ rfl
  refine ⟨hg, ?_⟩
  rintro _ rfl
  rw [(hG g hg).2.1]
  refine hQ _ ⟨⟨⟨hok.1, hok.2.1, hok.2.2.1, fun i hi => ⟨(hok.2.2.2 i hi).1, ?_⟩⟩, R.1.2.1, fun i hi => ⟨(hG i hi).1, ?_, (hG i hi).2.2⟩, R.1.2.2.2⟩, hu, R.2.2⟩
  · show updN σ.2.2.1.2.1 g n i < 1024
    unfold updN
    split
    · exact hn
    · exact (hok.2.2.2 i hi).2
  · exact un_ok (N := 3) (fun j hj => (hG j hj).2.1) rfl i hi
def daS (σ : SS2) (n : Nat) : SS2 := ((σ.1.1, σ.1.2.1, σ.1.2.2.1, σ.1.2.2.2.1, n), σ.2)
theorem t_draft (R : RC v σ hs k sn) (hn : 1 ≤ n) (hn2 : n ≤ 10) (hQ : ∀ v', RC v' (daS σ n) (pushH hs k σ) (pushK k) sn → Q (nI σ.1.2.2.2.2) v') : wp_X8_draft v (nI n) Q := by
  have hok := R.1.1
  unfold wp_X8_draft
  rw [l1, q_lt (by omega) (by decide), l10, q_le (by omega) (by decide)]
  refine ⟨fun z => absurd z (by omega), fun _ => ⟨fun _ => s_record R.1 R.2.1 (fun u hu => ?_), fun z => absurd hn2 z⟩⟩
  rintro _ rfl
  rw [R.1.2.1.2.2.2]
  refine hQ _ ⟨⟨⟨⟨hok.1.1, hn, hn2⟩, hok.2.1, ?_, hok.2.2.2⟩, ⟨⟨hok.1.1, hn, hn2⟩, R.1.2.1.2.1, fun h hh => ?_, rfl⟩, R.1.2.2⟩, hu, R.2.2⟩
  · show held (σ.1.1, σ.1.2.1, σ.1.2.2.1, σ.1.2.2.2.1, n) σ.2.1 &&& σ.2.1 = 0
    rw [held_cords (L := σ.1) (L' := (σ.1.1, σ.1.2.1, σ.1.2.2.1, σ.1.2.2.2.1, n)) (fun d => rfl)]
    exact hok.2.2.1
  · show v.1.1.2.2.2.2.1 h = nI (doors (σ.1.1, σ.1.2.1, σ.1.2.2.1, σ.1.2.2.2.1, n) h)
    rw [doors_halls (L := σ.1) (L' := (σ.1.1, σ.1.2.1, σ.1.2.2.1, σ.1.2.2.2.1, n)) (fun d h => rfl)]
    exact R.1.2.1.2.2.1 h hh
theorem t_undo0 (R : RC v σ hs 0 sn) (hQ : Q (-2) v) : wp_X8_undo v Q := ⟨fun z => absurd R.2.1.2.1 z, fun _ => hQ⟩
theorem t_undo (R : RC v σ hs (k + 1) sn) (hQ : ∀ v', RC v' (hs k) hs k sn → Q (nI k) v') : wp_X8_undo v Q := by
  have hk := R.2.1.1
  have e1 := R.2.1.2.1
  have n0 : ¬ nI (k + 1) = 0 := nI_ne0 (by omega) (by omega)
  refine ⟨fun _ => s_takeBack R.2.1 (fun h' u hh hu => ?_), fun z => absurd (e1.symm.trans z) n0⟩
  have e2 : h'.2.2 = nI k := hh.2.1
  show Q h'.2.2 _
  rw [e2]
  exact hQ _ ⟨hu, hh, R.2.2⟩
theorem t_save (R : RC v σ hs k sn) (hQ : ∀ v', RC v' σ hs k (some σ) → Q (nI σ.2.1) v') : wp_X8_save v Q := by
  refine s_copyS R.1 (fun u hu => ?_)
  have e : v.1.2.2.2 = nI σ.2.1 := R.1.2.2.2.2
  show Q v.1.2.2.2 _
  rw [e]
  exact hQ _ ⟨R.1, R.2.1, ⟨rfl, hu⟩, R.2.2.2⟩
theorem t_restore0 (R : RC v σ hs k none) (hQ : Q (-2) v) : wp_X8_restore v Q := ⟨fun z => absurd R.2.2.1 z, fun _ => hQ⟩
theorem t_restore {τ : SS2} (R : RC v σ hs k (some τ)) (hQ : ∀ v', RC v' τ (pushH hs k σ) (pushK k) (some τ) → Q (nI τ.2.1) v') : wp_X8_restore v Q := by
  obtain ⟨t1, t2⟩ := R.2.2.1
  have n1 : ¬ v.2.2.2.1 = 0 := by rw [t1]; decide
  refine ⟨fun _ => s_record R.1 R.2.1 (fun u hu => s_copyS t2 (fun v' hv' => ?_)), fun z => absurd z n1⟩
  have e : v'.2.2.2 = nI τ.2.1 := hv'.2.2.2.2
  show Q v'.2.2.2 _
  rw [e]
  exact hQ _ ⟨hv', hu, R.2.2⟩
end Ops
section Bad
variable {v : CDV} {Q : Int32 → CDV → Prop} {P : Int32 → Prop} {i j l : Int32} {d g o n : Nat}
theorem e_open (h : i < 0 ∨ nI 10 ≤ i) (hQ : Q (-1) v) : wp_X8_open v i Q := d8f h ⟨fun z => absurd rfl z, fun _ => hQ⟩
theorem e_shut (h : i < 0 ∨ nI 10 ≤ i) (hQ : Q (-1) v) : wp_X8_shut v i Q := d8f h ⟨fun z => absurd rfl z, fun _ => hQ⟩
theorem e_gOpens1 (h : i < 0 ∨ nI 3 ≤ i) (hQ : Q (-1) v) : wp_X8_guestOpens v i j Q := g8f h ⟨fun _ => hQ, fun z => absurd rfl z⟩
theorem e_gOpens2 (hg : g < 3) (h : i < 0 ∨ nI 10 ≤ i) (hQ : Q (-1) v) : wp_X8_guestOpens v (nI g) i Q := g8t hg ⟨fun z => absurd z one0, fun _ => d8f h ⟨fun z => absurd rfl z, fun _ => hQ⟩⟩
theorem e_gShuts1 (h : i < 0 ∨ nI 3 ≤ i) (hQ : Q (-1) v) : wp_X8_guestShuts v i j Q := g8f h ⟨fun _ => hQ, fun z => absurd rfl z⟩
theorem e_gShuts2 (hg : g < 3) (h : i < 0 ∨ nI 10 ≤ i) (hQ : Q (-1) v) : wp_X8_guestShuts v (nI g) i Q := g8t hg ⟨fun z => absurd z one0, fun _ => d8f h ⟨fun z => absurd rfl z, fun _ => hQ⟩⟩
theorem e_walk1 (h : i < 0 ∨ nI 3 ≤ i) (hQ : Q (-1) v) : wp_X8_walk v i j Q := g8f h ⟨fun _ => hQ, fun z => absurd rfl z⟩
theorem e_walk2 (hg : g < 3) (h : i < 0 ∨ nI 10 ≤ i) (hQ : Q (-1) v) : wp_X8_walk v (nI g) i Q := g8t hg ⟨fun z => absurd z one0, fun _ => d8f h ⟨fun z => absurd rfl z, fun _ => hQ⟩⟩
theorem e_cord1 (h : i < 0 ∨ nI 10 ≤ i) (hQ : Q (-1) v) : wp_X8_cord v i j l Q := d8f h ⟨fun _ => hQ, fun z => absurd rfl z⟩
theorem e_cord3 (hd : d < 10) (h : l < 0 ∨ nI 11 ≤ l) (hQ : Q (-1) v) : wp_X8_cord v (nI d) j l Q := by
  have h2 : l < 0 ∨ nI 10 ≤ l := h.imp id (fun z => Int32.le_of_lt (gt_of_ge (N := 10) (by decide) z))
  refine d8t hd ⟨fun z => absurd z one0, fun _ => d8f h2 ⟨fun z => absurd rfl z, fun _ => ⟨fun _ => hQ, fun z => ?_⟩⟩⟩
  rw [z] at h
  exact absurd h (by decide)
theorem e_join1 (h : i < 0 ∨ nI 10 ≤ i) (hQ : Q (-1) v) : wp_X8_join v i j l Q := d8f h ⟨fun _ => hQ, fun z => absurd rfl z⟩
theorem e_join2 (hd : d < 10) (h : j < 0 ∨ nI 6 ≤ j) (hQ : Q (-1) v) : wp_X8_join v (nI d) j l Q := d8t hd ⟨fun z => absurd z one0, fun _ => h8f h ⟨fun _ => hQ, fun z => absurd rfl z⟩⟩
theorem e_join3 (hd : d < 10) (ho : o < 6) (h : l < 0 ∨ nI 6 ≤ l) (hQ : Q (-1) v) : wp_X8_join v (nI d) (nI o) l Q := d8t hd ⟨fun z => absurd z one0, fun _ => h8t ho ⟨fun z => absurd z one0, fun _ => h8f h ⟨fun _ => hQ, fun z => absurd rfl z⟩⟩⟩
theorem e_join4 (hd : d < 10) (ho : o < 6) (hQ : Q (-1) v) : wp_X8_join v (nI d) (nI o) (nI o) Q := d8t hd ⟨fun z => absurd z one0, fun _ => h8t ho ⟨fun z => absurd z one0, fun _ => h8t ho ⟨fun z => absurd z one0, fun _ => ⟨fun z => absurd rfl z, fun _ => hQ⟩⟩⟩⟩
theorem e_keys1 (h : i < 0 ∨ nI 3 ≤ i) (hQ : Q (-1) v) : wp_X8_keys v i j Q := g8f h ⟨fun _ => hQ, fun z => absurd rfl z⟩
theorem e_keys2 (hg : g < 3) (h : j < 0 ∨ nI 1024 ≤ j) (hQ : Q (-1) v) : wp_X8_keys v (nI g) j Q := g8t hg ⟨fun z => absurd z one0, fun _ => t8f h ⟨fun z => absurd rfl z, fun _ => hQ⟩⟩
theorem e_draft0 (hQ : Q (-1) v) : wp_X8_draft v (0 : Int32) Q := ⟨fun _ => hQ, fun z => absurd (by decide) z⟩
theorem e_draft11 (hQ : Q (-1) v) : wp_X8_draft v (11 : Int32) Q := ⟨fun z => absurd z (by decide), fun _ => ⟨fun z => absurd z (by decide), fun _ => hQ⟩⟩
theorem e_append32 (hQ : Q (-1) v) : wp_X8_append v (32 : Int32) Q := ⟨fun _ => hQ, fun z => absurd (by decide) z⟩
theorem e_append127 (hQ : Q (-1) v) : wp_X8_append v (127 : Int32) Q := ⟨fun z => absurd z (by decide), fun _ => ⟨fun z => absurd z (by decide), fun _ => hQ⟩⟩
theorem e_door1 (h : i < 0 ∨ nI 10 ≤ i) (hP : P (-1)) : wp_X8_door v i j P := d8f h ⟨fun z => absurd rfl z, fun _ => hP⟩
theorem e_hall1 (h : i < 0 ∨ nI 6 ≤ i) (hP : P (-1)) : wp_X8_hall v i j P := h8f h ⟨fun z => absurd rfl z, fun _ => hP⟩
theorem e_guest1 (h : i < 0 ∨ nI 3 ≤ i) (hP : P (-1)) : wp_X8_guest v i j P := g8f h ⟨fun z => absurd rfl z, fun _ => hP⟩
theorem e_whyNot (h : i < 0 ∨ nI 10 ≤ i) (hP : P (-1)) : wp_X8_whyNot v i P := d8f h ⟨fun _ => hP, fun z => absurd rfl z⟩
theorem e_can (h : i < 0 ∨ nI 1024 ≤ i) (hP : P (-1)) : wp_X8_can v i P := t8f h ⟨fun z => absurd rfl z, fun _ => hP⟩
theorem e_ifOpened1 (h : i < 0 ∨ nI 10 ≤ i) (hP : P (-1)) : wp_X8_ifOpened v i j P := d8f h ⟨fun z => absurd rfl z, fun _ => hP⟩
theorem e_deeds1 (h : i < 0 ∨ nI 3 ≤ i) (hQ : Q (-1) v) : wp_X8_deeds v i j l Q := g8f h ⟨fun _ => hQ, fun z => absurd rfl z⟩
theorem e_deeds2 (hg : g < 3) (h : j < 0 ∨ nI 6 ≤ j) (hQ : Q (-1) v) : wp_X8_deeds v (nI g) j l Q := g8t hg ⟨fun z => absurd z one0, fun _ => h8f h ⟨fun z => absurd rfl z, fun _ => hQ⟩⟩
end Bad
