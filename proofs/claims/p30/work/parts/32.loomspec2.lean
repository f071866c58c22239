/-! PURE: a loom, second part -/
def updN (f : Nat → Nat) (k x : Nat) : Nat → Nat := fun j => if j = k then x else f j
theorem un_ok {g : Nat → Int32} {m : Nat → Nat} {N k y : Nat} {x : Int32} (h : ∀ j, j < N → g j = nI (m j)) (hx : x = nI y) : ∀ j, j < N → upd g k x j = nI (updN m k y j) := by
  intro j hj
  unfold upd updN
  by_cases hk : j = k
  · rw [if_pos hk, if_pos hk, hx]
  · rw [if_neg hk, if_neg hk, h j hj]
theorem q_min {a b : Nat} (ha : a < 2 ^ 31) (hb : b < 2 ^ 31) : (if nI b < nI a then nI b else nI a) = nI (min a b) := by
  by_cases h : b < a
  · rw [if_pos (nI_lt h ha), Nat.min_eq_right (by omega)]
  · rw [if_neg (nI_nlt (by omega) hb), Nat.min_eq_left (by omega)]
theorem q_max {a b : Nat} (ha : a < 2 ^ 31) (hb : b < 2 ^ 31) : (if nI a < nI b then nI b else nI a) = nI (max a b) := by
  by_cases h : a < b
  · rw [if_pos (nI_lt h hb), Nat.max_eq_right (by omega)]
  · rw [if_neg (nI_nlt (by omega) ha), Nat.max_eq_left (by omega)]
theorem s_hang {v : LoomV} {m : Nat → Nat} {d o1 o2 : Nat} {Q : LoomV → Prop} (hd : d < 10) (h1 : o1 < 6) (h2 : o2 < 6) (hm : ∀ h, h < 6 → v.2.2.2.2.1 h = nI (m h))
    (hQ : ∀ (g : Nat → Int32) (m' : Nat → Nat), (∀ h, h < 6 → g h = nI (m' h)) → (∀ h i, (m' h).testBit i = if i = d then (h == o1 || h == o2) else (m h).testBit i) → Q (v.1, v.2.1, upd v.2.2.1 d (nI (min o1 o2)), upd v.2.2.2.1 d (nI (max o1 o2)), g, v.2.2.2.2.2)) : wp_X3_hang v (nI d) (nI o1) (nI o2) Q := by
  have hd' : d < 2 ^ 31 := by omega
  have h1' : o1 < 2 ^ 31 := by omega
  have h2' : o2 < 2 ^ 31 := by omega
  obtain ⟨m8, em8⟩ : ∃ m8 : Nat → Nat, m8 = fun h => dif (m h) (2 ^ d) := ⟨_, rfl⟩
  have b8 : ∀ h i, (m8 h).testBit i = if i = d then false else (m h).testBit i := by
    intro h i
    rw [em8]
    show (dif (m h) (2 ^ d)).testBit i = _
    rw [dif_bit, Nat.testBit_two_pow]
    by_cases hi : i = d
    · subst hi; simp
    · have : ¬ d = i := fun z => hi z.symm
      simp [hi, this]
  have key : ∀ k x (g : Nat → Int32), x + k = 6 → (∀ j, j < 6 → g j = nI (if j < x then m8 j else m j)) → wp_X3_hang_L3 (nI d) (nI o1) (nI o2) Q (k + 1) (nI x) (v.1, v.2.1, v.2.2.1, v.2.2.2.1, g, v.2.2.2.2.2) := by
    intro k
    induction k with
    | zero =>
      intro x g hx hg
      have hx : x = 6 := by omega
      subst hx
      have r8 : ∀ j, j < 6 → g j = nI (m8 j) := fun j hj => by rw [hg j hj, if_pos hj]
      refine ⟨fun _ => ?_, fun z => absurd (ge_self _) z⟩
      simp only [nI_clamp hd', nI_clamp h1', nI_clamp h2', q_in hd', q_in h1', q_in h2', q_sh1 (show d < 31 by omega), q_min h1' h2', q_max h1' h2']
      refine ⟨hd, ?_⟩
      rintro _ rfl
      refine ⟨hd, ?_⟩
      rintro _ rfl
      refine ⟨h1, h1, ?_⟩
      intro g15 e15
      have r15 : ∀ j, j < 6 → g15 j = nI (updN m8 o1 (m8 o1 ||| 2 ^ d) j) := by rw [e15]; exact un_ok r8 (by rw [r8 _ h1, q_or])
      refine ⟨h2, h2, ?_⟩
      intro g18 e18
      obtain ⟨m15, em15⟩ : ∃ m15, m15 = updN m8 o1 (m8 o1 ||| 2 ^ d) := ⟨_, rfl⟩
      rw [← em15] at r15
      have r18 : ∀ j, j < 6 → g18 j = nI (updN m15 o2 (m15 o2 ||| 2 ^ d) j) := by rw [e18]; exact un_ok r15 (by rw [r15 _ h2, q_or])
      refine hQ g18 _ r18 ?_
      have b15 : ∀ h i, (m15 h).testBit i = if i = d then (h == o1) else (m h).testBit i := by
        intro h i
        rw [em15]
        unfold updN
        by_cases hho : h = o1
        · subst hho
          rw [if_pos rfl, Nat.testBit_or, Nat.testBit_two_pow, b8]
          by_cases hi : i = d
          · subst hi; simp
          · have : ¬ d = i := fun z => hi z.symm
            simp [hi, this]
        · rw [if_neg hho, b8]
          have y1 : (h == o1) = false := by simpa using hho
          by_cases hi : i = d
          · simp [hi, y1]
          · simp [hi]
      intro h i
      unfold updN
      by_cases hho : h = o2
      · subst hho
        rw [if_pos rfl, Nat.testBit_or, Nat.testBit_two_pow, b15]
        by_cases hi : i = d
        · subst hi; simp
        · have : ¬ d = i := fun z => hi z.symm
          simp [hi, this]
      · rw [if_neg hho, b15]
        have y1 : (h == o2) = false := by simpa using hho
        by_cases hi : i = d
        · simp [hi, y1]
        · simp [hi]
    | succ k ih =>
      intro x g hx hg
      have hx6 : x < 6 := by omega
      refine ⟨fun z => absurd z (ge_no hx6 (by decide)), fun _ => ?_⟩
      rw [q_in (by omega), nI_clamp (by omega)]
      refine ⟨hx6, ?_⟩
      show wp_X8_without (g x) (nI d) _
      rw [hg x hx6, if_neg (Nat.lt_irrefl x)]
      refine s_without hd ⟨hx6, ?_⟩
      rintro _ rfl _ rfl
      rw [nI_s]
      refine ih (x + 1) _ (by omega) (fun j hj => ?_)
      by_cases hjx : j = x
      · subst hjx
        rw [if_pos (Nat.lt_succ_self _), em8]
        exact if_pos rfl
      · refine (if_neg hjx).trans ?_
        show g j = _
        rw [hg j hj]
        by_cases hlt : j < x
        · rw [if_pos hlt, if_pos (by omega)]
        · rw [if_neg hlt, if_neg (by omega)]
  exact ⟨7, key 6 0 v.2.2.2.2.1 rfl (fun j hj => by rw [if_neg (Nat.not_lt_zero j)]; exact hm j hj)⟩
def setH (L : LoS) (d o1 o2 : Nat) : LoS := (L.1, L.2.1, updN L.2.2.1 d o1, updN L.2.2.2.1 d o2, L.2.2.2.2)
theorem jn_setH (L : LoS) (d o1 o2 i h : Nat) : jn (setH L d o1 o2) i h = if i = d then (o1 == h || o2 == h) else jn L i h := by
  unfold jn setH updN
  by_cases hi : i = d
  · simp [hi]
  · simp [hi]
theorem okL_setH {L : LoS} {d o1 o2 : Nat} (h : okL L) (h1 : o1 < 6) (h2 : o2 < 6) (hne : o1 ≠ o2) : okL (setH L d o1 o2) := by
  refine ⟨fun i hi => ?_, h.2⟩
  obtain ⟨a1, a2, a3, a4, a5, a6, a7, a8⟩ := h.1 i hi
  refine ⟨a1, a2, a3, a4, a5, ?_⟩
  unfold setH updN
  by_cases hid : i = d
  · simp only [hid, if_true]; exact ⟨h1, h2, hne⟩
  · simp only [hid, if_false]; exact ⟨a6, a7, a8⟩
/-- a door hung anew -/
theorem s_hangL {v : LoomV} {L : LoS} {d o1 o2 : Nat} {Q : LoomV → Prop} (R : rLoom v L) (hd : d < 10) (h1 : o1 < 6) (h2 : o2 < 6) (hne : o1 ≠ o2) (hQ : ∀ v', rLoom v' (setH L d o1 o2) → Q v') : wp_X3_hang v (nI d) (nI o1) (nI o2) Q := by
  obtain ⟨hok, hv, hm, hdr⟩ := R
  obtain ⟨k1, k2, k3, k4, k5, k6, k7, k8⟩ := hok.1 d hd
  obtain ⟨e1, e2, e3, e4⟩ := hv d hd
  refine s_hang hd h1 h2 hm ?_
  intro g m' hg hb
  refine hQ _ ⟨okL_setH hok h1 h2 hne, fun i hi => ?_, fun h hh => ?_, hdr⟩
  · obtain ⟨f1, f2, f3, f4⟩ := hv i hi
    refine ⟨f1, f2, ?_, ?_⟩
    · show upd v.2.2.1 d _ i = _
      unfold upd setH updN
      by_cases hid : i = d
      · simp [hid]
      · simp [hid, f3]
    · show upd v.2.2.2.1 d _ i = _
      unfold upd setH updN
      by_cases hid : i = d
      · simp [hid]
      · simp [hid, f4]
  · show g h = _
    rw [hg h hh]
    congr 1
    apply Nat.eq_of_testBit_eq
    intro i
    rw [hb, doors_bit (setH L d o1 o2), jn_setH]
    by_cases hi : i = d
    · subst hi
      rw [if_pos rfl, if_pos rfl]
      simp only [hd, decide_true, Bool.true_and]
      rw [show (h == o1) = (o1 == h) from Bool.beq_comm, show (h == o2) = (o2 == h) from Bool.beq_comm]
    · rw [if_neg hi, if_neg hi, doors_bit]
theorem s_lesserHall {v : LoomV} {L : LoS} {d : Nat} {Q : Int32 → Prop} (R : rLoom v L) (hd : d < 10) (hQ : Q (nI (min (L.2.2.1 d) (L.2.2.2.1 d)))) : wp_X3_lesserHall v (nI d) Q := by
  unfold wp_X3_lesserHall
  rw [q_in (by omega), nI_clamp (by omega), (R.2.1 d hd).2.2.1]
  exact ⟨hd, hQ⟩
theorem s_greaterHall {v : LoomV} {L : LoS} {d : Nat} {Q : Int32 → Prop} (R : rLoom v L) (hd : d < 10) (hQ : Q (nI (max (L.2.2.1 d) (L.2.2.2.1 d)))) : wp_X3_greaterHall v (nI d) Q := by
  unfold wp_X3_greaterHall
  rw [q_in (by omega), nI_clamp (by omega), (R.2.1 d hd).2.2.2]
  exact ⟨hd, hQ⟩
/-- the other hall of a door -/
def acr (L : LoS) (d h : Nat) : Nat := if L.2.2.1 d = h then L.2.2.2.1 d else L.2.2.1 d
theorem acr_lt {L : LoS} {d : Nat} (hok : okL L) (hd : d < 10) (h : Nat) : acr L d h < 6 := by
  have := hok.1 d hd
  unfold acr
  split <;> omega
theorem s_otherHall {v : LoomV} {L : LoS} {d h : Nat} {Q : Int32 → Prop} (R : rLoom v L) (hd : d < 10) (hh : h < 6) (hj : jn L d h = true) (hQ : Q (nI (acr L d h))) : wp_X3_otherHall v (nI d) (nI h) Q := by
  obtain ⟨k1, k2, k3, k4, k5, k6, k7, k8⟩ := R.1.1 d hd
  unfold wp_X3_otherHall
  rw [q_in (by omega), nI_clamp (by omega), (R.2.1 d hd).2.2.1, (R.2.1 d hd).2.2.2, q_eq (by omega) (by omega)]
  unfold acr at hQ
  simp only [jn, Bool.or_eq_true, beq_iff_eq] at hj
  refine ⟨hd, fun z => ⟨hd, ?_⟩, fun z => ⟨hd, ?_⟩⟩
  · rcases Nat.le_total (L.2.2.1 d) (L.2.2.2.1 d) with y | y
    · rw [Nat.min_eq_left y] at z ⊢
      rwa [if_neg z] at hQ
    · rw [Nat.min_eq_right y] at z ⊢
      rwa [if_pos (by omega)] at hQ
  · rcases Nat.le_total (L.2.2.1 d) (L.2.2.2.1 d) with y | y
    · rw [Nat.min_eq_left y] at z
      rw [Nat.max_eq_right y]
      rwa [if_pos z] at hQ
    · rw [Nat.min_eq_right y] at z
      rw [Nat.max_eq_left y]
      rwa [if_neg (by omega)] at hQ
theorem s_joins {v : LoomV} {L : LoS} {d h : Nat} {Q : Int32 → Prop} (R : rLoom v L) (hd : d < 10) (hh : h < 6) (hQ : Q (if jn L d h then 1 else 0)) : wp_X3_joins v (nI d) (nI h) Q := by
  obtain ⟨k1, k2, k3, k4, k5, k6, k7, k8⟩ := R.1.1 d hd
  obtain ⟨e1, e2, e3, e4⟩ := R.2.1 d hd
  unfold wp_X3_joins
  rw [q_in (by omega), nI_clamp (by omega), e3, e4, q_eq (by omega) (by omega), q_eq (by omega) (by omega)]
  have hj : jn L d h = true ↔ (min (L.2.2.1 d) (L.2.2.2.1 d) = h ∨ max (L.2.2.1 d) (L.2.2.2.1 d) = h) := by
    unfold jn
    rw [Bool.or_eq_true, beq_iff_eq, beq_iff_eq]
    omega
  refine ⟨hd, fun z => ?_, fun z => ⟨hd, fun y => ?_, fun y => ?_⟩⟩
  · rwa [if_pos (hj.mpr (Or.inl z))] at hQ
  · rwa [if_neg (fun x => (hj.mp x).elim z y)] at hQ
  · rwa [if_pos (hj.mpr (Or.inr y))] at hQ
theorem s_doorsOf {v : LoomV} {L : LoS} {h : Nat} {Q : Int32 → Prop} (R : rLoom v L) (hh : h < 6) (hQ : Q (nI (doors L h))) : wp_X3_doorsOf v (nI h) Q := by
  unfold wp_X3_doorsOf
  rw [q_in (by omega), nI_clamp (by omega), R.2.2.1 h hh]
  exact ⟨hh, hQ⟩
theorem s_cordOf {v : LoomV} {L : LoS} {d : Nat} {b : Int32} {Q : Int32 → Prop} (R : rLoom v L) (hd : d < 10) (hQ : Q (nI (if b = 0 then L.1 d else L.2.1 d))) : wp_X3_cordOf v (nI d) b Q := by
  unfold wp_X3_cordOf
  rw [q_in (by omega), nI_clamp (by omega), (R.2.1 d hd).1, (R.2.1 d hd).2.1]
  exact ⟨fun z => ⟨hd, by rwa [if_pos z] at hQ⟩, fun z => ⟨hd, by rwa [if_neg z] at hQ⟩⟩
def setC (L : LoS) (d : Nat) (second : Bool) (o : Nat) : LoS := if second then (L.1, updN L.2.1 d o, L.2.2) else (updN L.1 d o, L.2.1, L.2.2)
theorem s_layCord {v : LoomV} {L : LoS} {d o : Nat} {b : Int32} {Q : LoomV → Prop} (R : rLoom v L) (hd : d < 10) (hok : okL (setC L d (decide (¬ b = 0)) o)) (hQ : ∀ v', rLoom v' (setC L d (decide (¬ b = 0)) o) → Q v') : wp_X3_layCord v (nI d) b (nI o) Q := by
  unfold wp_X3_layCord
  rw [q_in (by omega), nI_clamp (by omega)]
  obtain ⟨-, hv, hm, hdr⟩ := R
  by_cases hb : b = 0
  · refine ⟨fun _ => ⟨hd, ?_⟩, fun z => absurd hb z⟩
    rintro _ rfl
    refine hQ _ ⟨hok, fun i hi => ?_, fun h hh => ?_, ?_⟩
    · obtain ⟨f1, f2, f3, f4⟩ := hv i hi
      simp only [setC, hb, not_true_eq_false, decide_false, Bool.false_eq_true, if_false]
      exact ⟨un_ok (N := 10) (fun j hj => (hv j hj).1) rfl i hi, f2, f3, f4⟩
    · simp only [setC, hb, not_true_eq_false, decide_false, Bool.false_eq_true, if_false]
      exact hm h hh
    · simp only [setC, hb, not_true_eq_false, decide_false, Bool.false_eq_true, if_false]
      exact hdr
  · refine ⟨fun z => absurd z hb, fun _ => ⟨hd, ?_⟩⟩
    rintro _ rfl
    refine hQ _ ⟨hok, fun i hi => ?_, fun h hh => ?_, ?_⟩
    · obtain ⟨f1, f2, f3, f4⟩ := hv i hi
      simp only [setC, hb, not_false_eq_true, decide_true, if_true]
      exact ⟨f1, un_ok (N := 10) (fun j hj => (hv j hj).2.1) rfl i hi, f3, f4⟩
    · simp only [setC, hb, not_false_eq_true, decide_true, if_true]
      exact hm h hh
    · simp only [setC, hb, not_false_eq_true, decide_true, if_true]
      exact hdr
