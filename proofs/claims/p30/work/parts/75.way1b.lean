/-! PURE: ways of a guest, told from the goal back: sets in line, rounds -/
def ln (L : LoS) (ev n : Nat) : Prop := n < 1024 ∧ (∀ i, n.testBit i = true → ev.testBit i = true) ∧ indep L n
def LNS (L : LoS) (ev : Nat) (line : Nat → Int32) (c n : Nat) : Prop := c ≤ n ∧ (∀ j, j < c → ∃ m, m < n ∧ ln L ev m ∧ line j = nI m) ∧ (∀ m, m < n → ln L ev m → ∃ j, j < c ∧ line j = nI m)
theorem dif_0 {n ev : Nat} : dif n ev = 0 ↔ ∀ i, n.testBit i = true → ev.testBit i = true := by
  constructor
  · intro h i hi
    have : (dif n ev).testBit i = false := by rw [h]; simp
    rw [dif_bit, hi] at this
    simpa using this
  · intro h
    refine bits_eq (fun i => ?_)
    rw [dif_bit, Nat.zero_testBit]
    cases hi : n.testBit i with
    | false => rfl
    | true => rw [h i hi]; rfl
section Way1b
variable {L : LoS} {ks goal ev : Nat} {v : LoomV}
theorem s_lineUp {few line : Nat → Int32} {c0 : Int32} {Q : WaysV → Prop} (R : rLoom v L) (hev : ev < 1024) (hQ : ∀ line' c, LNS L ev line' c 1024 → Q (few, line', nI c)) : wp_X7_lineUpSets (few, line, c0) v (nI ev) Q := by
  have key : ∀ k n line c, n + k = 1024 → LNS L ev line c n → wp_X7_lineUpSets_L7 v (nI ev) Q (k + 1) (nI n) (few, line, nI c) := by
    intro k
    induction k with
    | zero =>
      intro n line c hn B
      have hn : n = 1024 := by omega
      subst hn
      exact ⟨fun _ => hQ line c B, fun z => absurd (show (1023 : Int32) < nI 1024 by decide) z⟩
    | succ k ih =>
      intro n line c hn B
      have hn2 : n < 1024 := by omega
      obtain ⟨b1, b2, b3⟩ := id B
      have skip : (¬ ln L ev n) → ∀ z : Int32, z = nI n + (1 : Int32) → wp_X7_lineUpSets_L7 v (nI ev) Q (k + 1) z (few, line, nI c) := by
        rintro hno _ rfl
        rw [nI_s]
        refine ih (n + 1) line c (by omega) ⟨by omega, fun j hj => ?_, fun m hm hl => ?_⟩
        · obtain ⟨m, a1, a2, a3⟩ := b2 j hj
          exact ⟨m, by omega, a2, a3⟩
        · by_cases hmn : m = n
          · subst hmn; exact absurd hl hno
          · exact b3 m (by omega) hl
      refine ⟨fun z => absurd z (nI_nlt (a := 1023) (b := n) (by omega) (by decide)), fun _ => ⟨fun z => ?_, fun z => ?_⟩⟩
      · have z : (6144 : Int32) ≤ nI c := z
        rw [l6144, q_le (by decide) (by omega)] at z
        omega
      · rw [q_andn, l0, q_eq (by have := @dif_lt n ev 10 hn2; omega) (by decide), dif_0]
        refine ⟨fun y => ⟨fun _ => skip (fun hl => y hl.2.1), fun x => absurd rfl x⟩, fun y => ⟨fun x => absurd x one0, fun _ => s_heldBy R hn2 ?_⟩⟩
        rw [q_and, l0, q_eq (by have := @Nat.and_le_right (held L n) n; omega) (by decide), indep_iff]
        refine ⟨fun x => skip (fun hl => x hl.2.2), fun x => ?_⟩
        show vp_in (nI c) 6144 ∧ ∀ g11 : Nat → Int32, g11 = upd line (nI c).toNatClampNeg (nI n) → ∀ z12 : Int32, z12 = nI c + 1 → ∀ z13 : Int32, z13 = nI n + 1 → wp_X7_lineUpSets_L7 v (nI ev) Q (k + 1) z13 (few, g11, z12)
        rw [q_in (by omega), nI_clamp (by omega)]
        refine ⟨by omega, ?_⟩
        rintro _ rfl _ rfl _ rfl
        rw [nI_s, nI_s]
        have hln : ln L ev n := ⟨hn2, y, x⟩
        refine ih (n + 1) _ (c + 1) (by omega) ⟨by omega, fun j hj => ?_, fun m hm hl => ?_⟩
        · by_cases hjc : j = c
          · subst hjc; exact ⟨n, by omega, hln, updS⟩
          · obtain ⟨m, a1, a2, a3⟩ := b2 j (by omega)
            exact ⟨m, by omega, a2, (updO hjc).trans a3⟩
        · by_cases hmn : m = n
          · subst hmn; exact ⟨c, by omega, updS⟩
          · obtain ⟨j, a1, a2⟩ := b3 m (by omega) hl
            exact ⟨j, by omega, (updO (by omega)).trans a2⟩
  exact ⟨1025, key 1024 0 line 0 rfl ⟨Nat.le_refl _, fun j hj => absurd hj (Nat.not_lt_zero j), fun m hm => absurd hm (Nat.not_lt_zero m)⟩⟩
theorem ln_step {s t : Sp} (hL : okL L) (hkev : ∀ i, ks.testBit i = true → ev.testBit i = true) (hs : ln L ev s.1) (hs2 : s.2 < 6) (he : Ed L ks s t) : ln L ev t.1 ∧ t.2 < 6 := by
  obtain ⟨h1, h2, h3⟩ := Ed_ok hL ⟨hs.1, hs2, hs.2.2⟩ he
  refine ⟨⟨h1, fun i hi => ?_, h3⟩, h2⟩
  obtain ⟨d, hd, hj, he | he⟩ := he
  · rcases he.2 with rfl | rfl
    · exact hs.2.1 i hi
    · have hi : (dif s.1 (2 ^ d)).testBit i = true := hi
      rw [dif_bit, Bool.and_eq_true] at hi
      exact hs.2.1 i hi.1
  · obtain ⟨-, hk, -, rfl⟩ := he
    have hi : (afterC L s.1 d).testBit i = true := drF_sub L d _ 6 i hi
    rw [afterC_bit, Bool.and_eq_true, Bool.or_eq_true, decide_eq_true_eq] at hi
    rcases hi.1 with h | rfl
    · exact hs.2.1 i h
    · exact hkev d hk
def AnW (L : LoS) (ks goal : Nat) (st : Sp) (r : Int32) : Prop := (∃ k, k < 6144 ∧ r = nI k ∧ wk L ks goal k st ∧ ∀ j, j < k → ¬ wk L ks goal j st) ∨ (r = -4 ∧ ∀ k, k < 6144 → ¬ wk L ks goal k st)
def HI (L : LoS) (ks goal ev : Nat) (few : Nat → Int32) (r cnt : Nat) : Prop :=
  ∃ fv, FB few fv ∧ SND L ks goal fv ∧ (∀ m, ln L ev m → fv (enC (m, goal)) = 0) ∧ (∀ k, k ≤ r → ∀ s : Sp, ln L ev s.1 → s.2 < 6 → wk L ks goal k s → fv (enC s) ≤ k) ∧ (cnt = 0 → ∀ s t : Sp, ln L ev s.1 → s.2 < 6 → Ed L ks s t → fv (enC s) ≤ fv (enC t) + 1)
theorem hi_all {few : Nat → Int32} {r : Nat} {fv : Nat → Nat} (hL : okL L) (hkev : ∀ i, ks.testBit i = true → ev.testBit i = true) (hz : ∀ m, ln L ev m → fv (enC (m, goal)) = 0) (hF : ∀ s t : Sp, ln L ev s.1 → s.2 < 6 → Ed L ks s t → fv (enC s) ≤ fv (enC t) + 1) : ∀ k, ∀ s : Sp, ln L ev s.1 → s.2 < 6 → wk L ks goal k s → fv (enC s) ≤ k
  | 0, s, h1, h2, h3 => by
    have h3 : s.2 = goal := h3
    have : enC s = enC (s.1, goal) := by unfold enC; rw [h3]
    rw [this, hz s.1 h1]
    exact Nat.le_refl _
  | k + 1, s, h1, h2, h3 => by
    obtain ⟨t, he, hw⟩ := h3
    obtain ⟨a1, a2⟩ := ln_step hL hkev h1 h2 he
    have := hi_all (few := few) (r := r) hL hkev hz hF k t a1 a2 hw
    have := hF s t h1 h2 he
    omega
theorem s_B135 {few : Nat → Int32} {r cnt : Nat} {st : Sp} {u : (Nat → Int32) × Int32} {Q : Int32 → WaysV → Prop} (hL : okL L) (hkev : ∀ i, ks.testBit i = true → ev.testBit i = true) (hst : ln L ev st.1) (hst2 : st.2 < 6) (H : HI L ks goal ev few r cnt) (hx : 6144 ≤ r ∨ cnt = 0) (hQ : ∀ r u, AnW L ks goal st r → Q r u) : wp_X7_fromHallBack_B135 v (nI (enC st)) (few, u) Q := by
  obtain ⟨fv, F, S, hz, hU, hF⟩ := H
  have hok : okP L st := ⟨hst.1, hst2, hst.2.2⟩
  have hen := (EN_C L).1 st hok
  obtain ⟨f1, f2⟩ := F _ hen
  have low : ∀ k, k < 6144 → wk L ks goal k st → fv (enC st) ≤ k := by
    intro k hk hw
    rcases hx with h | h
    · exact hU k (by omega) st hst hst2 hw
    · exact hi_all (few := few) (r := r) hL hkev hz (hF h) k st hst hst2 hw
  refine s_fewestOf hen ?_
  rw [f1, l6144, q_eq (by omega) (by decide)]
  refine ⟨fun y => s_fewestOf hen ?_, fun y => hQ _ _ (Or.inr ⟨rfl, fun k hk hw => ?_⟩)⟩
  rw [f1]
  refine hQ _ _ (Or.inl ⟨fv (enC st), by omega, rfl, S st hok (by omega), fun j hj hw => ?_⟩)
  · have := low j (by omega) hw
    omega
  · have := low k hk hw
    omega
theorem s_L88 {f0 : Nat → Nat} {line : Nat → Int32} {c r : Nat} {x2 : Int32} {Q : Int32 → WaysV → Prop} {K : Int32 → Int32 → WaysV → Prop} (R : rLoom v L) (hks : ks < 1024) (hLN : LNS L ev line c 1024) (hK : ∀ few T Done, T ≤ 40960 → SR L ks goal f0 few T Done → (∀ m, ln L ev m → ∀ h t, h < 6 → Ed L ks (m, h) t → Done (m, h) t) → K (nI T) (nI (r + 1)) (few, line, nI c)) : ∀ k i few T Done, i + k = c → T ≤ 40 * i → SR L ks goal f0 few T Done → (∀ j, j < i → ∀ m, m < 1024 → line j = nI m → ∀ h t, h < 6 → Ed L ks (m, h) t → Done (m, h) t) → wp_X7_fromHallBack_L88 v x2 (nI ks) (nI r) Q K (k + 1) (nI T) (nI i) (few, line, nI c) := by
  obtain ⟨b1, b2, b3⟩ := hLN
  intro k
  induction k with
  | zero =>
    intro i few T Done hi hT S hD
    have hi : i = c := by omega
    subst hi
    refine ⟨fun _ => ?_, fun z => absurd (ge_self _) z⟩
    rintro _ rfl
    rw [nI_s]
    refine hK few T Done (by omega) S (fun m hm h t hh ht => ?_)
    obtain ⟨j, a1, a2⟩ := b3 m hm.1 hm
    exact hD j a1 m hm.1 a2 h t hh ht
  | succ k ih =>
    intro i few T Done hi hT S hD
    have hic : i < c := by omega
    obtain ⟨m, m1, m2, m3⟩ := b2 i hic
    show ((nI c ≤ nI i) → _) ∧ (¬ (nI c ≤ nI i) → ((6144 : Int32) ≤ nI i → _) ∧ (¬ ((6144 : Int32) ≤ nI i) → vp_in (nI i) 6144 ∧ wp_X7_lessenAll (few, line, nI c) v (line (nI i).toNatClampNeg) (nI ks) _))
    rw [q_le (by omega) (by omega), q_in (by omega), nI_clamp (by omega), m3]
    refine ⟨fun y => absurd y (by omega), fun _ => ⟨fun y => ?_, fun _ => ⟨by omega, ?_⟩⟩⟩
    · rw [l6144, q_le (by decide) (by omega)] at y
      omega
    · refine s_lessenAll R hks m1 m2.2.2 S (fun few' a Done' ha S' h1 h2 => ?_)
      rintro _ rfl _ rfl
      rw [nI_add, nI_s]
      refine ih (i + 1) few' (T + a) Done' (by omega) (by omega) S' (fun j hj m' hm' hl h t hh ht => ?_)
      by_cases hji : j = i
      · subst hji
        rw [m3, q_eq (by omega) (by omega)] at hl
        subst hl
        exact h2 h t hh ht
      · exact h1 _ _ (hD j (by omega) m' hm' hl h t hh ht)
theorem s_L69 {line : Nat → Int32} {c : Nat} {st : Sp} {Q : Int32 → WaysV → Prop} (R : rLoom v L) (hks : ks < 1024) (hgo : goal < 6) (hkev : ∀ i, ks.testBit i = true → ev.testBit i = true) (hst : ln L ev st.1) (hst2 : st.2 < 6) (hLN : LNS L ev line c 1024) (hQ : ∀ r u, AnW L ks goal st r → Q r u) : ∀ k r few cnt, r + k = 6144 → cnt ≤ 40960 → HI L ks goal ev few r cnt → wp_X7_fromHallBack_L69 v (nI (enC st)) (nI ks) Q (k + 1) (nI cnt) (nI r) (few, line, nI c) := by
  intro k
  induction k with
  | zero =>
    intro r few cnt hr hc H
    have hr : r = 6144 := by omega
    subst hr
    exact ⟨fun _ => s_B135 R.1 hkev hst hst2 H (Or.inl (Nat.le_refl _)) hQ, fun z => absurd (ge_self _) z⟩
  | succ k ih =>
    intro r few cnt hr hc H
    have hr2 : r < 6144 := by omega
    refine ⟨fun z => absurd z (ge_no hr2 (by decide)), fun _ => ?_⟩
    rw [l0, q_le (by omega) (by decide)]
    refine ⟨fun y => s_B135 R.1 hkev hst hst2 H (Or.inr (by omega)) hQ, fun y => ?_⟩
    obtain ⟨f0, F, S, hz, hU, -⟩ := H
    refine ⟨c + 1, s_L88 (f0 := f0) R hks hLN (fun few' T Done hT S' hD => ?_) c 0 few 0 (fun _ _ => False) (by omega) (by omega) ⟨f0, F, fun x _ => Nat.le_refl _, fun _ x _ => rfl, S, fun _ _ h => h.elim⟩ (fun j hj => absurd hj (Nat.not_lt_zero j))⟩
    refine ih (r + 1) few' T (by omega) hT ?_
    obtain ⟨fv, F', A, C, S2, E⟩ := S'
    have hen : ∀ s : Sp, ln L ev s.1 → s.2 < 6 → enC s < 6144 := fun s h1 h2 => (EN_C L).1 s ⟨h1.1, h2, h1.2.2⟩
    have zero : ∀ m, ln L ev m → fv (enC (m, goal)) = 0 := by
      intro m hm
      have h1 := hz m hm
      have h2 := A _ (hen (m, goal) hm hgo)
      omega
    refine ⟨fv, F', S2, zero, fun k hk s h1 h2 h3 => ?_, fun h0 s t h1 h2 he => ?_⟩
    · cases k with
      | zero =>
        have h3 : s.2 = goal := h3
        have : enC s = enC (s.1, goal) := by unfold enC; rw [h3]
        rw [this, zero s.1 h1]
        exact Nat.le_refl _
      | succ k =>
        obtain ⟨t, he, hw⟩ := h3
        obtain ⟨a1, a2⟩ := ln_step R.1 hkev h1 h2 he
        have b1 := hU k (by omega) t a1 a2 hw
        have b2 := E s t (hD s.1 h1 s.2 t h2 he)
        omega
    · obtain ⟨a1, a2⟩ := ln_step R.1 hkev h1 h2 he
      have b1 := C h0 _ (hen t a1 a2)
      have b2 := E s t (hD s.1 h1 s.2 t h2 he)
      omega
theorem s_L24 {line : Nat → Int32} {c : Nat} {st : Sp} {Q : Int32 → WaysV → Prop} (R : rLoom v L) (hks : ks < 1024) (hgo : goal < 6) (hkev : ∀ i, ks.testBit i = true → ev.testBit i = true) (hst : ln L ev st.1) (hst2 : st.2 < 6) (hLN : LNS L ev line c 1024) (hQ : ∀ r u, AnW L ks goal st r → Q r u) : ∀ k i few fv, i + k = c → FB few fv → SND L ks goal fv → (∀ j, j < i → ∀ m, m < 1024 → line j = nI m → fv (enC (m, goal)) = 0) → wp_X7_fromHallBack_L24 v (nI (enC st)) (nI ks) (nI goal) Q (k + 1) (nI i) (few, line, nI c) := by
  obtain ⟨b1, b2, b3⟩ := id hLN
  have done : ∀ few fv, FB few fv → SND L ks goal fv → (∀ j, j < c → ∀ m, m < 1024 → line j = nI m → fv (enC (m, goal)) = 0) → ∃ k, wp_X7_fromHallBack_L69 v (nI (enC st)) (nI ks) Q k (1 : Int32) (0 : Int32) (few, line, nI c) := by
    intro few fv F S hz
    have zero : ∀ m, ln L ev m → fv (enC (m, goal)) = 0 := fun m hm => by
      obtain ⟨j, a1, a2⟩ := b3 m hm.1 hm
      exact hz j a1 m hm.1 a2
    refine ⟨6145, s_L69 R hks hgo hkev hst hst2 hLN hQ 6144 0 few 1 rfl (by decide) ⟨fv, F, S, zero, fun k hk s h1 h2 h3 => ?_, fun h => absurd h (by decide)⟩⟩
    have hk0 : k = 0 := by omega
    subst hk0
    have h3 : s.2 = goal := h3
    have : enC s = enC (s.1, goal) := by unfold enC; rw [h3]
    rw [this, zero s.1 h1]
    exact Nat.le_refl _
  intro k
  induction k with
  | zero =>
    intro i few fv hi F S hz
    have hi : i = c := by omega
    subst hi
    exact ⟨fun _ => done few fv F S hz, fun z => absurd (ge_self _) z⟩
  | succ k ih =>
    intro i few fv hi F S hz
    have hic : i < c := by omega
    obtain ⟨m, m1, m2, m3⟩ := b2 i hic
    show ((nI c ≤ nI i) → _) ∧ (¬ (nI c ≤ nI i) → ((6144 : Int32) ≤ nI i → _) ∧ (¬ ((6144 : Int32) ≤ nI i) → vp_in (nI i) 6144 ∧ wp_X8_spot (line (nI i).toNatClampNeg) (nI goal) _))
    rw [q_le (by omega) (by omega), q_in (by omega), nI_clamp (by omega), m3]
    have hokm : okP L (m, goal) := ⟨m1, hgo, m2.2.2⟩
    have hen := (EN_C L).1 _ hokm
    refine ⟨fun y => absurd y (by omega), fun _ => ⟨fun y => ?_, fun _ => ⟨by omega, s_spot ?_⟩⟩⟩
    · rw [l6144, q_le (by decide) (by omega)] at y
      omega
    · refine s_isSpot hen ⟨fun z => absurd z one0, fun _ => ?_⟩
      rw [q_in (by omega), nI_clamp (by omega)]
      refine ⟨hen, ?_⟩
      rintro _ rfl _ rfl
      rw [nI_s]
      refine ih (i + 1) _ (fun x => if x = enC (m, goal) then 0 else fv x) (by omega) (fun x hx => ?_) (fun s hs hl => ?_) (fun j hj m' hm' hl => ?_)
      · by_cases hxe : x = enC (m, goal)
        · simp only [if_pos hxe]
          subst hxe
          exact ⟨updS, by omega⟩
        · simp only [if_neg hxe]
          obtain ⟨a1, a2⟩ := F x hx
          exact ⟨(updO hxe).trans a1, a2⟩
      · by_cases hxe : enC s = enC (m, goal)
        · simp only [if_pos hxe]
          rw [(EN_C L).2 s (m, goal) hs hokm hxe]
          rfl
        · simp only [if_neg hxe] at hl ⊢
          exact S s hs hl
      · by_cases hji : j = i
        · subst hji
          rw [m3, q_eq (by omega) (by omega)] at hl
          subst hl
          simp only [if_true]
        · have := hz j (by omega) m' hm' hl
          simp only [this]
          split <;> rfl
theorem s_fromHallBack {st : Sp} {u : WaysV} {Q : Int32 → WaysV → Prop} (R : rLoom v L) (hks : ks < 1024) (hgo : goal < 6) (hst : okP L st) (hQ : ∀ r u, AnW L ks goal st r → Q r u) : wp_X7_fromHallBack u v (nI (enC st)) (nI ks) (nI goal) Q := by
  have hen := (EN_C L).1 st hst
  have e1 : enC st / 6 = st.1 := by
    have := hst.2.1
    unfold enC
    omega
  refine s_fill (fun f hf => ?_)
  rw [q_div6 (by omega), e1, q_or]
  have hev : st.1 ||| ks < 1024 := or_lt (k := 10) hst.1 hks
  refine s_lineUp (ev := st.1 ||| ks) R hev (fun line c hLN => ?_)
  have hkev : ∀ i, ks.testBit i = true → (st.1 ||| ks).testBit i = true := fun i hi => by rw [Nat.testBit_or, hi, Bool.or_true]
  have hln : ln L (st.1 ||| ks) st.1 := ⟨hst.1, fun i hi => by rw [Nat.testBit_or, hi, Bool.true_or], hst.2.2⟩
  refine ⟨c + 1, s_L24 R hks hgo hkev hln hst.2.1 hLN hQ c 0 f (fun _ => 6144) (by omega) (fun x hx => ⟨hf x hx, Nat.le_refl _⟩) (fun s _ h => absurd h (show ¬ (6144 : Nat) < 6144 by decide)) (fun j hj => absurd hj (Nat.not_lt_zero j))⟩
end Way1b
