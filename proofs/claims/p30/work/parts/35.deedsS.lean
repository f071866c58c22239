/-! PURE: deeds of a state -/
/-- none of the doors that stand has a cord to another one of them -/
def indep (L : LoS) (n : Nat) : Prop := ∀ j e, j < 10 → n.testBit j = true → (tg L j).testBit e = true → n.testBit e = false
theorem indep_iff (L : LoS) (n : Nat) : held L n &&& n = 0 ↔ indep L n := by
  constructor
  · intro h j e hj h1 h2
    have h3 : (held L n).testBit e = true := (held_bit L n e).mpr ⟨j, hj, h1, h2⟩
    have h4 : (held L n &&& n).testBit e = false := by rw [h]; simp
    rw [Nat.testBit_and, h3, Bool.true_and] at h4
    exact h4
  · intro h
    apply Nat.eq_of_testBit_eq
    intro e
    rw [Nat.testBit_and, Nat.zero_testBit]
    cases h3 : (held L n).testBit e with
    | false => rfl
    | true =>
      obtain ⟨j, hj, h1, h2⟩ := (held_bit L n e).mp h3
      rw [h j e hj h1 h2]; rfl
theorem indep_sub {L : LoS} {n m : Nat} (h : indep L m) (hs : ∀ i, n.testBit i = true → m.testBit i = true) : indep L n := by
  intro j e hj h1 h2
  cases h3 : n.testBit e with
  | false => rfl
  | true => have := h j e hj (hs j h1) h2; rw [hs e h3] at this; cases this
def rsn (L : LoS) (n d : Nat) : Nat := if n.testBit d then 1 else if (held L n).testBit d then 2 else 0
theorem slam_sub (L : LoS) (d h : Nat) : ∀ k n i, (slam L d h k n).testBit i = true → n.testBit i = true
  | 0, _, _, z => z
  | k + 1, n, i, z => by
    unfold slam at z
    split at z
    · have := slam_sub L d h k _ i z
      rw [dif_bit, Bool.and_eq_true] at this
      exact this.1
    · exact z
theorem drF_sub (L : LoS) (d n : Nat) : ∀ h i, (drF L d n h).testBit i = true → n.testBit i = true
  | 0, _, z => z
  | h + 1, i, z => drF_sub L d n h i (slam_sub L d h 10 _ i z)
theorem afterC_bit (L : LoS) (n d i : Nat) : (afterC L n d).testBit i = ((n.testBit i || decide (d = i)) && !(tg L d).testBit i) := by
  unfold afterC
  rw [dif_bit, Nat.testBit_or, Nat.testBit_two_pow]
theorem afterC_indep {L : LoS} {n d : Nat} (h : indep L n) (hd : d < 10) (hr : rsn L n d = 0) : indep L (afterC L n d) := by
  have hheld : (held L n).testBit d = false := by
    unfold rsn at hr
    split at hr
    · cases hr
    · split at hr
      · cases hr
      · rename_i z; simpa using z
  intro j e hj h1 h2
  rw [afterC_bit, Bool.and_eq_true, Bool.or_eq_true, decide_eq_true_eq] at h1
  rw [afterC_bit]
  cases h3 : (tg L d).testBit e with
  | true => simp
  | false =>
    rcases h1.1 with h4 | h4
    · have h5 := h j e hj h4 h2
      have h6 : ¬ d = e := by
        intro z
        subst z
        have : (held L n).testBit d = true := (held_bit L n d).mpr ⟨j, hj, h4, h2⟩
        rw [hheld] at this; cases this
      rw [h5]
      simp [h6]
    · subst h4
      rw [h3] at h2; cases h2
theorem afterO_indep {L : LoS} {n d : Nat} (h : indep L n) (hd : d < 10) (hr : rsn L n d = 0) : indep L (afterO L n d) :=
  indep_sub (afterC_indep h hd hr) (fun i z => drF_sub L d _ 6 i z)
theorem if01 (b : Bool) : ((if b then (1 : Int32) else 0) = 0) = (b = false) := by cases b <;> decide
section StateSpec
variable {v : StV} {σ : SS2} {d g : Nat}
theorem s_isOpen {Q : Int32 → Prop} (R : rSt v σ) (hd : d < 31) (hQ : Q (if σ.2.1.testBit d then 1 else 0)) : wp_X5_isOpen v (nI d) Q := by
  unfold wp_X5_isOpen
  have := R.1.2.1
  rw [R.2.2.2.2]
  exact s_has (by omega) hd hQ
theorem s_shutDoors {Q : Int32 → Prop} (R : rSt v σ) (hQ : Q (nI (dif 1023 σ.2.1))) : wp_X5_shutDoors v Q := by
  unfold wp_X5_shutDoors
  rw [R.2.2.2.2, show (1023 : Int32) = nI 1023 from rfl, q_andn]
  exact hQ
theorem s_reasonNotToOpen {Q : Int32 → Prop} (R : rSt v σ) (hd : d < 10) (hQ : Q (nI (rsn σ.1 σ.2.1 d))) : wp_X5_reasonNotToOpen v (nI d) Q := by
  have hop := R.1.2.1
  refine s_isOpen R (by omega) ?_
  unfold rsn at hQ
  cases hb : σ.2.1.testBit d <;> rw [hb] at hQ
  · refine ⟨fun _ => ?_, fun z => absurd rfl z⟩
    rw [R.2.2.2.2]
    refine s_heldBy R.2.1 hop (s_has (by have := held_lt σ.1 σ.2.1; omega) (by omega) ?_)
    cases hc : (held σ.1 σ.2.1).testBit d <;> rw [hc] at hQ
    · exact ⟨fun _ => hQ, fun z => absurd rfl z⟩
    · exact ⟨fun z => absurd z (by decide), fun _ => hQ⟩
  · exact ⟨fun z => absurd z (by decide), fun _ => hQ⟩
theorem s_reasonNotToShut {Q : Int32 → Prop} (R : rSt v σ) (hd : d < 10) (hQ : Q (nI (if σ.2.1.testBit d then 0 else 3))) : wp_X5_reasonNotToShut v (nI d) Q := by
  refine s_isOpen R (by omega) ?_
  cases hb : σ.2.1.testBit d <;> rw [hb] at hQ
  · exact ⟨fun _ => hQ, fun z => absurd rfl z⟩
  · exact ⟨fun z => absurd z (by decide), fun _ => hQ⟩
theorem s_isAtDoor {Q : Int32 → Prop} (R : rSt v σ) (hg : g < 3) (hd : d < 10) (hQ : Q (if jn σ.1 d (σ.2.2.1.1 g) then 1 else 0)) : wp_X5_isAtDoor v (nI g) (nI d) Q := by
  unfold wp_X5_isAtDoor
  rw [q_in (by omega), nI_clamp (by omega), (R.2.2.1 g hg).1]
  exact ⟨hg, s_joins R.2.1 hd (R.1.2.2.2 g hg).1 hQ⟩
def rsnG (σ : SS2) (g d : Nat) : Nat := if jn σ.1 d (σ.2.2.1.1 g) then (if (σ.2.2.1.2.1 g).testBit d then rsn σ.1 σ.2.1 d else 6) else 5
def rsnU (σ : SS2) (g d : Nat) : Nat := if jn σ.1 d (σ.2.2.1.1 g) then (if σ.2.1.testBit d then 0 else 3) else 5
theorem s_reasonNotToOpenAsGuest {Q : Int32 → Prop} (R : rSt v σ) (hg : g < 3) (hd : d < 10) (hQ : Q (nI (rsnG σ g d))) : wp_X5_reasonNotToOpenAsGuest v (nI g) (nI d) Q := by
  refine s_isAtDoor R hg hd ?_
  unfold rsnG at hQ
  cases hb : jn σ.1 d (σ.2.2.1.1 g) <;> rw [hb] at hQ
  · exact ⟨fun z => absurd rfl z, fun _ => hQ⟩
  · refine ⟨fun _ => ?_, fun z => absurd z (by decide)⟩
    rw [q_in (by omega), nI_clamp (by omega), (R.2.2.1 g hg).2.1]
    refine ⟨hg, s_has (by have := (R.1.2.2.2 g hg).2; omega) (by omega) ?_⟩
    cases hc : (σ.2.2.1.2.1 g).testBit d <;> rw [hc] at hQ
    · exact ⟨fun _ => hQ, fun z => absurd rfl z⟩
    · exact ⟨fun z => absurd z (by decide), fun _ => s_reasonNotToOpen R hd hQ⟩
theorem s_reasonNotToUse {Q : Int32 → Prop} (R : rSt v σ) (hg : g < 3) (hd : d < 10) (hQ : Q (nI (rsnU σ g d))) : wp_X5_reasonNotToUse v (nI g) (nI d) Q := by
  refine s_isAtDoor R hg hd ?_
  unfold rsnU at hQ
  cases hb : jn σ.1 d (σ.2.2.1.1 g) <;> rw [hb] at hQ
  · exact ⟨fun _ => hQ, fun z => absurd rfl z⟩
  · exact ⟨fun z => absurd z (by decide), fun _ => s_reasonNotToShut R hd hQ⟩
theorem rsn_lt (L : LoS) (n d : Nat) : rsn L n d < 7 := by
  unfold rsn
  split
  · decide
  · split <;> decide
theorem rsnG_lt (σ : SS2) (g d : Nat) : rsnG σ g d < 7 := by
  unfold rsnG
  split
  · split
    · exact rsn_lt _ _ _
    · decide
  · decide
theorem rsnU_lt (σ : SS2) (g d : Nat) : rsnU σ g d < 7 := by
  unfold rsnU
  split
  · split <;> decide
  · decide
def hmF (σ : SS2) (g : Nat) : Nat → Nat
  | 0 => 0
  | i + 1 => if rsnG σ g i = 0 then hmF σ g i + 1 else hmF σ g i
theorem s_howManyCouldOpen {Q : Int32 → Prop} (R : rSt v σ) (hg : g < 3) (hQ : Q (nI (hmF σ g 10))) : wp_X5_howManyCouldOpen v (nI g) Q := by
  refine loop_f (fun k i s => wp_X5_howManyCouldOpen_L4 v (nI g) Q k s i) 10 (fun i => nI (hmF σ g i)) ?_ ?_
  · intro k; exact ⟨fun _ => hQ, fun z => absurd (ge_self _) z⟩
  · intro k i hi ih
    refine ⟨fun z => absurd z (ge_no hi (by decide)), fun _ => s_reasonNotToOpenAsGuest R hg hi ?_⟩
    have h7 := rsnG_lt σ g i
    rw [l0, q_eq (by omega) (by decide)]
    refine ⟨fun z => ?_, fun z => ?_⟩
    · rintro _ rfl
      rw [nI_s]
      simpa [hmF, z] using ih
    · rintro _ rfl _ rfl
      rw [nI_s, nI_s]
      simpa [hmF, z] using ih
/-- a door opens -/
def opS (σ : SS2) (d : Nat) : SS2 := (σ.1, afterO σ.1 σ.2.1 d, σ.2.2.1, acShut (acOpened σ.2.2.2 d) (dif σ.2.1 (afterC σ.1 σ.2.1 d)) (dif (afterC σ.1 σ.2.1 d) (afterO σ.1 σ.2.1 d)))
def opA (σ : SS2) (d : Nat) : Nat := 10 + pc (dif σ.2.1 (afterC σ.1 σ.2.1 d) ||| dif (afterC σ.1 σ.2.1 d) (afterO σ.1 σ.2.1 d))
def reS (σ : SS2) : SS2 := (σ.1, σ.2.1, σ.2.2.1, acRef σ.2.2.2)
def oU (σ : SS2) (r d : Nat) : SS2 := if r = 0 then opS σ d else reS σ
def oA (σ : SS2) (r d : Nat) : Nat := if r = 0 then opA σ d else r
theorem s_refS {v : StV} {σ : SS2} {r : Int32} {Q : Int32 → StV → Prop} (R : rSt v σ) (hQ : ∀ v', rSt v' (reS σ) → Q r v') : wp_X0_noteRefused v.2.2.1 r (fun r' u => Q r' (v.1, v.2.1, u, v.2.2.2)) := by
  obtain ⟨hok, h1, h2, h3, h4⟩ := R
  exact s_noteRefused h3 (fun v' h => hQ _ ⟨hok, h1, h2, h, h4⟩)
theorem s_opensUnless {Q : Int32 → StV → Prop} {r : Nat} (R : rSt v σ) (hd : d < 10) (hr : r < 7) (h0 : r = 0 → rsn σ.1 σ.2.1 d = 0) (hQ : ∀ v', rSt v' (oU σ r d) → Q (nI (oA σ r d)) v') : wp_X5_opensUnless v (nI r) (nI d) Q := by
  unfold wp_X5_opensUnless
  rw [l0, q_eq (by omega) (by decide)]
  refine ⟨fun z => ?_, fun z => ?_⟩
  · have hz := h0 z
    subst z
    obtain ⟨hok, h1, h2, h3, h4⟩ := R
    have hop := hok.2.1
    have hC := afterC_lt σ.1 hop hd
    have hO := afterO_lt σ.1 hop hd
    rw [h4]
    refine s_afterCords h1 hd (s_afterDrafts h1 hd hC ?_)
    rw [q_andn, q_andn]
    rintro _ rfl _ rfl
    refine s_noteOpened h3 hd (fun a ha => s_noteShutByOpening ha (dif_lt (k := 10) hop) (dif_lt (k := 10) hC) (fun b hb => ?_))
    rw [q_or]
    refine s_bitCount (or_lt (k := 10) (dif_lt (k := 10) hop) (dif_lt (k := 10) hC)) ?_
    rw [l10, nI_add]
    refine hQ _ ⟨⟨hok.1, hO, ?_, hok.2.2.2⟩, h1, h2, hb, rfl⟩
    exact (indep_iff _ _).mpr (afterO_indep ((indep_iff _ _).mp hok.2.2.1) hd hz)
  · have e : oU σ r d = reS σ := if_neg z
    have e2 : oA σ r d = r := if_neg z
    rw [e, e2] at hQ
    exact s_refS R hQ
def shS (σ : SS2) (d : Nat) : SS2 := (σ.1, dif σ.2.1 (2 ^ d), σ.2.2.1, acHand σ.2.2.2 d)
def sU (σ : SS2) (r d : Nat) : SS2 := if r = 0 then shS σ d else reS σ
def sA (r : Nat) : Nat := if r = 0 then 10 else r
theorem s_shutsUnless {Q : Int32 → StV → Prop} {r : Nat} (R : rSt v σ) (hd : d < 10) (hr : r < 7) (hQ : ∀ v', rSt v' (sU σ r d) → Q (nI (sA r)) v') : wp_X5_shutsUnless v (nI r) (nI d) Q := by
  unfold wp_X5_shutsUnless
  rw [l0, q_eq (by omega) (by decide)]
  refine ⟨fun z => ?_, fun z => ?_⟩
  · subst z
    obtain ⟨hok, h1, h2, h3, h4⟩ := R
    refine s_noteShutByHand h3 hd (fun a ha => ?_)
    rw [h4]
    refine s_without hd ?_
    refine hQ _ ⟨⟨hok.1, dif_lt (k := 10) hok.2.1, ?_, hok.2.2.2⟩, h1, h2, ha, rfl⟩
    refine (indep_iff _ _).mpr (indep_sub ((indep_iff _ _).mp hok.2.2.1) (fun i y => ?_))
    have y : (dif σ.2.1 (2 ^ d)).testBit i = true := y
    rw [dif_bit, Bool.and_eq_true] at y
    exact y.1
  · have e : sU σ r d = reS σ := if_neg z
    have e2 : sA r = r := if_neg z
    rw [e, e2] at hQ
    exact s_refS R hQ
theorem s_servantOpens {Q : Int32 → StV → Prop} (R : rSt v σ) (hd : d < 10) (hQ : ∀ v', rSt v' (oU σ (rsn σ.1 σ.2.1 d) d) → Q (nI (oA σ (rsn σ.1 σ.2.1 d) d)) v') : wp_X5_servantOpens v (nI d) Q :=
  s_reasonNotToOpen R hd (s_opensUnless R hd (rsn_lt _ _ _) (fun z => z) hQ)
theorem s_servantShuts {Q : Int32 → StV → Prop} (R : rSt v σ) (hd : d < 10) (hQ : ∀ v', rSt v' (sU σ (if σ.2.1.testBit d then 0 else 3) d) → Q (nI (sA (if σ.2.1.testBit d then 0 else 3))) v') : wp_X5_servantShuts v (nI d) Q :=
  s_reasonNotToShut R hd (s_shutsUnless R hd (by split <;> decide) hQ)
theorem rsnG_0 {σ : SS2} {g d : Nat} (h : rsnG σ g d = 0) : rsn σ.1 σ.2.1 d = 0 := by
  unfold rsnG at h
  split at h
  · split at h
    · exact h
    · cases h
  · cases h
theorem s_opensAsGuest {Q : Int32 → StV → Prop} (R : rSt v σ) (hg : g < 3) (hd : d < 10) (hQ : ∀ v', rSt v' (oU σ (rsnG σ g d) d) → Q (nI (oA σ (rsnG σ g d) d)) v') : wp_X5_opensAsGuest v (nI g) (nI d) Q :=
  s_reasonNotToOpenAsGuest R hg hd (s_opensUnless R hd (rsnG_lt _ _ _) rsnG_0 hQ)
theorem s_shutsAsGuest {Q : Int32 → StV → Prop} (R : rSt v σ) (hg : g < 3) (hd : d < 10) (hQ : ∀ v', rSt v' (sU σ (rsnU σ g d) d) → Q (nI (sA (rsnU σ g d))) v') : wp_X5_shutsAsGuest v (nI g) (nI d) Q :=
  s_reasonNotToUse R hg hd (s_shutsUnless R hd (rsnU_lt _ _ _) hQ)
/-- a guest walks -/
def wkS (σ : SS2) (g d : Nat) : SS2 := (σ.1, σ.2.1, (updN σ.2.2.1.1 g (acr σ.1 d (σ.2.2.1.1 g)), σ.2.2.1.2.1, upd σ.2.2.1.2.2 g (σ.2.2.1.2.2 g + 1)), σ.2.2.2)
def wU (σ : SS2) (g d : Nat) : SS2 := if rsnU σ g d = 0 then wkS σ g d else reS σ
def wA (σ : SS2) (g d : Nat) : Nat := if rsnU σ g d = 0 then 10 + acr σ.1 d (σ.2.2.1.1 g) else rsnU σ g d
theorem s_walksThrough {Q : Int32 → StV → Prop} (R : rSt v σ) (hg : g < 3) (hd : d < 10) (hQ : ∀ v', rSt v' (wU σ g d) → Q (nI (wA σ g d)) v') : wp_X5_walksThrough v (nI g) (nI d) Q := by
  refine s_reasonNotToUse R hg hd ?_
  have h7 := rsnU_lt σ g d
  rw [l0, q_eq (by omega) (by decide)]
  refine ⟨fun z => ?_, fun z => ?_⟩
  · have e : wU σ g d = wkS σ g d := if_pos z
    have e2 : wA σ g d = 10 + acr σ.1 d (σ.2.2.1.1 g) := if_pos z
    rw [e, e2] at hQ
    obtain ⟨hok, h1, h2, h3, h4⟩ := R
    have hj : jn σ.1 d (σ.2.2.1.1 g) = true := by
      unfold rsnU at z
      split at z
      · assumption
      · cases z
    rw [q_in (by omega), nI_clamp (by omega), (h2 g hg).1]
    refine ⟨hg, s_otherHall h1 hd (hok.2.2.2 g hg).1 hj ⟨hg, ?_⟩⟩
    rintro _ rfl
    refine ⟨hg, hg, ?_⟩
    rintro _ rfl
    refine ⟨hg, ?_⟩
    rw [show upd v.2.1.1 g (nI (acr σ.1 d (σ.2.2.1.1 g))) g = nI (acr σ.1 d (σ.2.2.1.1 g)) from if_pos rfl, l10, nI_add]
    refine hQ _ ⟨⟨hok.1, hok.2.1, hok.2.2.1, fun i hi => ⟨?_, (hok.2.2.2 i hi).2⟩⟩, h1, fun i hi => ⟨?_, (h2 i hi).2.1, ?_⟩, h3, h4⟩
    · show updN σ.2.2.1.1 g _ i < 6
      unfold updN
      split
      · exact acr_lt hok.1 hd _
      · exact (hok.2.2.2 i hi).1
    · exact un_ok (N := 3) (fun j hj => (h2 j hj).1) rfl i hi
    · exact ui_ok (N := 3) (fun j hj => (h2 j hj).2.2) (by rw [(h2 g hg).2.2]) i hi
  · have e : wU σ g d = reS σ := if_neg z
    have e2 : wA σ g d = rsnU σ g d := if_neg z
    rw [e, e2] at hQ
    exact s_refS R hQ
/-- a cord laid anew -/
def lcR (σ : SS2) (d o : Nat) : Bool := σ.2.1.testBit d && (decide (¬ o = 10) && σ.2.1.testBit o)
def lcS (σ : SS2) (d : Nat) (b : Bool) (o : Nat) : SS2 := if lcR σ d o then reS σ else (setC σ.1 d b o, σ.2.1, σ.2.2)
def lcA (σ : SS2) (d o : Nat) : Nat := if lcR σ d o then 4 else 10
theorem tg_setC (L : LoS) (d : Nat) (b : Bool) (o j : Nat) (h : j ≠ d) : tg (setC L d b o) j = tg L j := by
  unfold tg setC updN
  cases b <;> simp [h]
theorem tg_setC_self {L : LoS} {d : Nat} {b : Bool} {o e : Nat} (h : (tg (setC L d b o) d).testBit e = true) : e = o ∨ (tg L d).testBit e = true := by
  rw [tg_bit] at h ⊢
  unfold setC updN at h
  cases b <;> simp at h <;> simp <;> omega
theorem s_laysCord {Q : Int32 → StV → Prop} {o : Nat} {b : Int32} (R : rSt v σ) (hd : d < 10) (ho : o ≤ 10) (hne : o ≠ d) (hcl : ¬ o = 10 → (if b = 0 then σ.1.2.1 d else σ.1.1 d) ≠ o) (hQ : ∀ v', rSt v' (lcS σ d (decide (¬ b = 0)) o) → Q (nI (lcA σ d o)) v') : wp_X5_laysCord v (nI d) b (nI o) Q := by
  obtain ⟨hok, h1, h2, h3, h4⟩ := id R
  have hokC : okL (setC σ.1 d (decide (¬ b = 0)) o) := by
    refine ⟨fun i hi => ?_, ?_⟩
    · have hk := hok.1.1 i hi
      by_cases hb : b = 0
      · simp only [hb, if_true] at hcl
        simp only [setC, hb, not_true_eq_false, decide_false, Bool.false_eq_true, if_false, updN]
        by_cases hid : i = d
        · subst hid
          simp only [if_true]
          refine ⟨ho, hk.2.1, hne, hk.2.2.2.1, ?_, hk.2.2.2.2.2⟩
          intro y
          by_cases h10 : o = 10
          · exact h10
          · exact absurd y.symm (hcl h10)
        · simp only [hid, if_false]
          exact hk
      · simp only [hb, if_false] at hcl
        simp only [setC, hb, not_false_eq_true, decide_true, if_true, updN]
        by_cases hid : i = d
        · subst hid
          simp only [if_true]
          refine ⟨hk.1, ho, hk.2.2.1, hne, ?_, hk.2.2.2.2.2⟩
          intro y
          by_cases h10 : o = 10
          · omega
          · exact absurd y (hcl h10)
        · simp only [hid, if_false]
          exact hk
    · unfold setC
      split <;> exact hok.1.2
  have lay : lcR σ d o = false → wp_X3_layCord v.1 (nI d) b (nI o) (fun u => Q (10 : Int32) (u, v.2.1, v.2.2.1, v.2.2.2)) := by
    intro hl
    have eS : lcS σ d (decide (¬ b = 0)) o = (setC σ.1 d (decide (¬ b = 0)) o, σ.2.1, σ.2.2) := by unfold lcS; rw [hl]; rfl
    have e2 : lcA σ d o = 10 := by unfold lcA; rw [hl]; rfl
    rw [eS, e2] at hQ
    clear eS e2
    refine s_layCord h1 hd hokC (fun u hu => hQ _ ⟨⟨hokC, hok.2.1, ?_, hok.2.2.2⟩, hu, h2, h3, h4⟩)
    refine (indep_iff _ _).mpr ?_
    have hi := (indep_iff _ _).mp hok.2.2.1
    intro j e hj j1 j2
    by_cases hjd : j = d
    · subst hjd
      rcases tg_setC_self j2 with rfl | j3
      · have he : e < 10 := by
          rw [tg_bit, Bool.and_eq_true] at j2
          simpa using j2.2
        unfold lcR at hl
        rw [j1] at hl
        have : ¬ e = 10 := by omega
        simpa [this] using hl
      · exact hi j e hj j1 j3
    · rw [tg_setC _ _ _ _ _ hjd] at j2
      exact hi j e hj j1 j2
  refine s_isOpen R (by omega) ?_
  cases hb1 : σ.2.1.testBit d
  · exact ⟨fun _ => lay (by unfold lcR; rw [hb1]; rfl), fun z => absurd rfl z⟩
  · refine ⟨fun z => absurd z (by decide), fun _ => ?_⟩
    rw [l10, q_eq (by omega) (by decide)]
    refine ⟨fun z => lay (by unfold lcR; simp [z]), fun z => ?_⟩
    refine s_isOpen R (by omega) ?_
    cases hb2 : σ.2.1.testBit o
    · exact ⟨fun _ => lay (by unfold lcR; simp [hb2]), fun z => absurd rfl z⟩
    · refine ⟨fun z => absurd z (by decide), fun _ => ?_⟩
      have hl : lcR σ d o = true := by unfold lcR; simp [hb1, hb2, z]
      have e : lcS σ d (decide (¬ b = 0)) o = reS σ := by unfold lcS; rw [hl]; rfl
      have e2 : lcA σ d o = 4 := by unfold lcA; rw [hl]; rfl
      rw [e, e2] at hQ
      exact s_refS R hQ
end StateSpec
