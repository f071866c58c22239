/-! PURE: guests, accounts, a state and its deeds -/
abbrev GuS : Type := (Nat → Nat) × (Nat → Nat) × (Nat → Int32)
abbrev AcS : Type := (Nat → Int32) × (Nat → Int32) × Int32 × Int32 × Int32 × Int32 × Int32
abbrev SS2 : Type := LoS × Nat × GuS × AcS
def rGu (v : GuV) (g : GuS) : Prop := ∀ i, i < 3 → v.1 i = nI (g.1 i) ∧ v.2.1 i = nI (g.2.1 i) ∧ v.2.2 i = g.2.2 i
def rAc (v : AcV) (a : AcS) : Prop := (∀ d, d < 10 → v.1 d = a.1 d ∧ v.2.1 d = a.2.1 d) ∧ v.2.2 = a.2.2
def okS (σ : SS2) : Prop := okL σ.1 ∧ σ.2.1 < 1024 ∧ held σ.1 σ.2.1 &&& σ.2.1 = 0 ∧ ∀ i, i < 3 → σ.2.2.1.1 i < 6 ∧ σ.2.2.1.2.1 i < 1024
def rSt (v : StV) (σ : SS2) : Prop := okS σ ∧ rLoom v.1 σ.1 ∧ rGu v.2.1 σ.2.2.1 ∧ rAc v.2.2.1 σ.2.2.2 ∧ v.2.2.2 = nI σ.2.1
def acOpened (a : AcS) (d : Nat) : AcS := (upd a.1 d (a.1 d + 1), a.2.1, a.2.2.1 + 1, a.2.2.2)
def acHand (a : AcS) (d : Nat) : AcS := (a.1, upd a.2.1 d (a.2.1 d + 1), a.2.2.1, a.2.2.2.1 + 1, a.2.2.2.2)
def acShut (a : AcS) (zc zd : Nat) : AcS := (a.1, fun e => if (zc ||| zd).testBit e then a.2.1 e + 1 else a.2.1 e, a.2.2.1, a.2.2.2.1, a.2.2.2.2.1 + nI (pc zc), a.2.2.2.2.2.1 + nI (pc zd), a.2.2.2.2.2.2)
def acRef (a : AcS) : AcS := (a.1, a.2.1, a.2.2.1, a.2.2.2.1, a.2.2.2.2.1, a.2.2.2.2.2.1, a.2.2.2.2.2.2 + 1)
theorem ui_ok {f g : Nat → Int32} {N k : Nat} {x y : Int32} (h : ∀ j, j < N → f j = g j) (hx : x = y) : ∀ j, j < N → upd f k x j = upd g k y j := by
  intro j hj
  unfold upd
  by_cases hk : j = k
  · rw [if_pos hk, if_pos hk, hx]
  · rw [if_neg hk, if_neg hk, h j hj]
theorem s_noteOpened {v : AcV} {a : AcS} {d : Nat} {Q : AcV → Prop} (R : rAc v a) (hd : d < 10) (hQ : ∀ v', rAc v' (acOpened a d) → Q v') : wp_X0_noteOpened v (nI d) Q := by
  unfold wp_X0_noteOpened
  rw [q_in (by omega), nI_clamp (by omega)]
  refine ⟨hd, hd, ?_⟩
  rintro _ rfl _ rfl
  have e := R.2
  refine hQ _ ⟨fun i hi => ⟨ui_ok (N := 10) (fun j hj => (R.1 j hj).1) (by rw [(R.1 d hd).1]) i hi, (R.1 i hi).2⟩, ?_⟩
  show _ = (a.2.2.1 + 1, a.2.2.2)
  rw [← e]
theorem s_noteShutByHand {v : AcV} {a : AcS} {d : Nat} {Q : AcV → Prop} (R : rAc v a) (hd : d < 10) (hQ : ∀ v', rAc v' (acHand a d) → Q v') : wp_X0_noteShutByHand v (nI d) Q := by
  unfold wp_X0_noteShutByHand
  rw [q_in (by omega), nI_clamp (by omega)]
  refine ⟨hd, hd, ?_⟩
  rintro _ rfl _ rfl
  have e := R.2
  refine hQ _ ⟨fun i hi => ⟨(R.1 i hi).1, ui_ok (N := 10) (fun j hj => (R.1 j hj).2) (by rw [(R.1 d hd).2]) i hi⟩, ?_⟩
  show _ = (a.2.2.1, a.2.2.2.1 + 1, a.2.2.2.2)
  rw [← e]
theorem s_noteRefused {v : AcV} {a : AcS} {r : Int32} {Q : Int32 → AcV → Prop} (R : rAc v a) (hQ : ∀ v', rAc v' (acRef a) → Q r v') : wp_X0_noteRefused v r Q := by
  rintro _ rfl
  have e := R.2
  refine hQ _ ⟨R.1, ?_⟩
  show _ = (a.2.2.1, a.2.2.2.1, a.2.2.2.2.1, a.2.2.2.2.2.1, a.2.2.2.2.2.2 + 1)
  rw [← e]
def scF (f : Nat → Int32) (z k : Nat) : Nat → Int32 := fun e => if e < k ∧ z.testBit e = true then f e + 1 else f e
theorem s_noteShutByOpening {v : AcV} {a : AcS} {zc zd : Nat} {Q : AcV → Prop} (R : rAc v a) (hc : zc < 1024) (hd : zd < 1024) (hQ : ∀ v', rAc v' (acShut a zc zd) → Q v') : wp_X0_noteShutByOpening v (nI zc) (nI zd) Q := by
  unfold wp_X0_noteShutByOpening
  refine s_bitCount hc ?_
  rintro _ rfl
  refine s_bitCount hd ?_
  rintro _ rfl
  obtain ⟨h1, e⟩ := R
  obtain ⟨oc, sc, n1, n2, n3, n4, n5⟩ := v
  obtain ⟨oc', sc', m1, m2, m3, m4, m5⟩ := a
  cases e
  have hz : zc ||| zd < 1024 := or_lt (k := 10) hc hd
  have key : ∀ k i (g : Nat → Int32), i + k = 10 → (∀ e, e < 10 → g e = scF sc' (zc ||| zd) i e) → wp_X0_noteShutByOpening_L28 (nI zc) (nI zd) Q (k + 1) (nI i) (oc, g, n1, n2, n3 + nI (pc zc), n4 + nI (pc zd), n5) := by
    intro k
    induction k with
    | zero =>
      intro i g hi hg
      have hi : i = 10 := by omega
      subst hi
      refine ⟨fun _ => ?_, fun z => absurd (ge_self _) z⟩
      refine hQ _ ⟨fun d hd => ⟨(h1 d hd).1, ?_⟩, rfl⟩
      show g d = if (zc ||| zd).testBit d then sc' d + 1 else sc' d
      rw [hg d hd]
      unfold scF
      simp [hd]
    | succ k ih =>
      intro i g hi hg
      have hi10 : i < 10 := by omega
      refine ⟨fun z => absurd z (ge_no hi10 (by decide)), fun _ => ?_⟩
      rw [q_or]
      refine s_has (by omega) (by omega) ?_
      cases hb : (zc ||| zd).testBit i
      · refine ⟨fun _ => ?_, fun z => absurd rfl z⟩
        rintro _ rfl
        rw [nI_s]
        refine ih (i + 1) g (by omega) (fun e he => ?_)
        rw [hg e he]
        unfold scF
        by_cases hei : e = i
        · subst hei; simp [hb]
        · have : (e < i + 1) = (e < i) := propext (by omega)
          simp only [this]
      · refine ⟨fun z => absurd z (by decide), fun _ => ?_⟩
        rw [q_in (by omega), nI_clamp (by omega)]
        refine ⟨hi10, hi10, ?_⟩
        rintro _ rfl _ rfl
        rw [nI_s]
        refine ih (i + 1) _ (by omega) (fun e he => ?_)
        show upd g i (g i + 1) e = _
        unfold upd
        by_cases hei : e = i
        · subst hei
          rw [if_pos rfl, hg e he]
          unfold scF
          simp [hb]
        · rw [if_neg hei, hg e he]
          unfold scF
          have : (e < i + 1) = (e < i) := propext (by omega)
          simp only [this]
  exact ⟨11, key 10 0 sc (by omega) (fun e he => Eq.trans (b := sc' e) (h1 e he).2 (by unfold scF; simp))⟩
theorem s_copyG {v u : GuV} {g : GuS} {Q : GuV → Prop} (R : rGu u g) (hQ : ∀ v', rGu v' g → Q v') : wp_X1_copy v u Q := by
  rintro _ rfl _ rfl _ rfl
  refine hQ _ (fun i hi => ?_)
  obtain ⟨f1, f2, f3⟩ := R i hi
  exact ⟨(cpy0 (n := 3) (by decide) hi).trans f1, (cpy0 (n := 3) (by decide) hi).trans f2, (cpy0 (n := 3) (by decide) hi).trans f3⟩
theorem s_copyA {v u : AcV} {a : AcS} {Q : AcV → Prop} (R : rAc u a) (hQ : ∀ v', rAc v' a → Q v') : wp_X0_copy v u Q := by
  rintro _ rfl _ rfl _ rfl _ rfl _ rfl _ rfl _ rfl
  refine hQ _ ⟨fun d hd => ?_, R.2⟩
  obtain ⟨f1, f2⟩ := R.1 d hd
  exact ⟨(cpy0 (n := 10) (by decide) hd).trans f1, (cpy0 (n := 10) (by decide) hd).trans f2⟩
theorem s_copyS {v u : StV} {σ : SS2} {Q : StV → Prop} (R : rSt u σ) (hQ : ∀ v', rSt v' σ → Q v') : wp_X5_copy v u Q := by
  obtain ⟨hok, h1, h2, h3, h4⟩ := R
  refine s_copyL h1 (fun a ha => s_copyG h2 (fun b hb => s_copyA h3 (fun c hc => ?_)))
  rintro _ rfl
  exact hQ _ ⟨hok, ha, hb, hc, h4⟩
