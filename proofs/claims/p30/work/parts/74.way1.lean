/-! PURE: ways of a guest, told by the component from the goal back -/
def FB (few : Nat → Int32) (fv : Nat → Nat) : Prop := ∀ x, x < 6144 → few x = nI (fv x) ∧ fv x ≤ 6144
def SND (L : LoS) (ks goal : Nat) (fv : Nat → Nat) : Prop := ∀ s, okP L s → fv (enC s) < 6144 → wk L ks goal (fv (enC s)) s
def SR (L : LoS) (ks goal : Nat) (f0 : Nat → Nat) (few : Nat → Int32) (cnt : Nat) (Done : Sp → Sp → Prop) : Prop :=
  ∃ fv, FB few fv ∧ (∀ x, x < 6144 → fv x ≤ f0 x) ∧ (cnt = 0 → ∀ x, x < 6144 → fv x = f0 x) ∧ SND L ks goal fv ∧ (∀ s t, Done s t → fv (enC s) ≤ f0 (enC t) + 1)
section Way1
variable {L : LoS} {ks goal : Nat} {f0 : Nat → Nat} {v : LoomV}
theorem s_lessen {few : Nat → Int32} {u : (Nat → Int32) × Int32} {cnt : Nat} {Done : Sp → Sp → Prop} {s t : Sp} {Q : Int32 → WaysV → Prop} (S : SR L ks goal f0 few cnt Done) (hs : okP L s) (ht : okP L t) (he : Ed L ks s t) (hQ : ∀ few' r, r ≤ 1 → SR L ks goal f0 few' (cnt + r) (fun a b => Done a b ∨ (a = s ∧ b = t)) → Q (nI r) (few', u)) : wp_X7_lessen (few, u) (nI (enC s)) (nI (enC t)) Q := by
  have h1 := (EN_C L).1 s hs
  have h2 := (EN_C L).1 t ht
  obtain ⟨fv, F, A, C, D, E⟩ := S
  obtain ⟨s1, s2⟩ := F _ h1
  obtain ⟨t1, t2⟩ := F _ h2
  refine s_isSpot h1 ⟨fun z => absurd z one0, fun _ => s_isSpot h2 ⟨fun z => absurd z one0, fun _ => ?_⟩⟩
  show vp_in (nI (enC t)) 6144 ∧ (vp_in (nI (enC s)) 6144 ∧ ((few (nI (enC t)).toNatClampNeg + 1 < few (nI (enC s)).toNatClampNeg → vp_in (nI (enC t)) 6144 ∧ (vp_in (nI (enC s)) 6144 ∧ ∀ g6 : Nat → Int32, g6 = upd few (nI (enC s)).toNatClampNeg (few (nI (enC t)).toNatClampNeg + 1) → Q 1 (g6, u))) ∧ (¬ (few (nI (enC t)).toNatClampNeg + 1 < few (nI (enC s)).toNatClampNeg) → Q 0 (few, u))))
  rw [q_in (by omega), q_in (by omega), nI_clamp (by omega), nI_clamp (by omega), s1, t1, nI_s, q_lt (by omega) (by omega)]
  refine ⟨h2, h1, fun y => ⟨h2, h1, ?_⟩, fun y => ?_⟩
  · rintro _ rfl
    have fs : ∀ x, (if x = enC s then fv (enC t) + 1 else fv x) ≤ fv x := by
      intro x
      split
      · rename_i h; rw [h]; omega
      · exact Nat.le_refl _
    refine hQ _ 1 (Nat.le_refl _) ⟨fun x => if x = enC s then fv (enC t) + 1 else fv x, fun x hx => ?_, fun x hx => Nat.le_trans (fs x) (A x hx), fun z => by omega, fun a ha hl => ?_, fun a b hab => ?_⟩
    · by_cases hxs : x = enC s
      · simp only [if_pos hxs]
        subst hxs
        exact ⟨updS, by omega⟩
      · simp only [if_neg hxs]
        rw [updO hxs]
        exact F x hx
    · by_cases hxs : enC a = enC s
      · have : a = s := (EN_C L).2 a s ha hs hxs
        subst this
        simp only [if_true]
        exact ⟨t, he, D t ht (by omega)⟩
      · simp only [if_neg hxs] at hl ⊢
        exact D a ha hl
    · rcases hab with hab | ⟨rfl, rfl⟩
      · exact Nat.le_trans (fs _) (E a b hab)
      · simp only [if_true]
        have := A _ h2
        omega
  · refine hQ _ 0 (by omega) ⟨fv, F, A, C, D, fun a b hab => ?_⟩
    rcases hab with hab | ⟨rfl, rfl⟩
    · exact E a b hab
    · have := A _ h2
      omega
theorem sr_weak {few : Nat → Int32} {cnt : Nat} {Done Done' : Sp → Sp → Prop} (S : SR L ks goal f0 few cnt Done) (h : ∀ a b, Done' a b → Done a b) : SR L ks goal f0 few cnt Done' := by
  obtain ⟨fv, F, A, C, D, E⟩ := S
  exact ⟨fv, F, A, C, D, fun a b hab => E a b (h a b hab)⟩
/-- the two last looks at a door -/
theorem s_B125e {n n' d T a : Nat} {x4 : Int32} {u : (Nat → Int32) × Int32} {few : Nat → Int32} {Done : Sp → Sp → Prop} {Q : Int32 → WaysV → Prop} {K : Int32 → Int32 → WaysV → Prop} {lo hi : Nat} (S : SR L ks goal f0 few (T + a) Done) (hlo : okP L (n, lo)) (hhi : okP L (n, hi)) (h1 : okP L (n', lo)) (h2 : okP L (n', hi)) (h3 : Ed L ks (n, lo) (n', lo)) (h4 : Ed L ks (n, hi) (n', hi)) (hK : ∀ few' a', a' ≤ a + 2 → SR L ks goal f0 few' (T + a') (fun s t => (Done s t ∨ (s = (n, lo) ∧ t = (n', lo))) ∨ (s = (n, hi) ∧ t = (n', hi))) → K (nI a') (nI (d + 1)) (few', u)) : wp_X7_lessenAll_B125 v (nI n) x4 (nI a) (nI d) (nI lo) (nI hi) (nI n') (few, u) Q K := by
  refine s_spot (s_spot (s_lessen S hlo h1 h3 (fun few1 r1 hr1 S1 => ?_)))
  rintro _ rfl
  refine s_spot (s_spot (s_lessen S1 hhi h2 h4 (fun few2 r2 hr2 S2 => ?_)))
  rintro _ rfl _ rfl
  rw [nI_add, nI_add, nI_s]
  refine hK few2 (a + r1 + r2) (by omega) ?_
  rw [show T + (a + r1 + r2) = T + a + r1 + r2 by omega]
  exact S2
theorem acr_min {d : Nat} (hL : okL L) (hd : d < 10) : acr L d (min (L.2.2.1 d) (L.2.2.2.1 d)) = max (L.2.2.1 d) (L.2.2.2.1 d) := by
  have := (hL.1 d hd).2.2.2.2.2.2.2
  unfold acr
  split <;> omega
theorem acr_max {d : Nat} (hL : okL L) (hd : d < 10) : acr L d (max (L.2.2.1 d) (L.2.2.2.1 d)) = min (L.2.2.1 d) (L.2.2.2.1 d) := by
  have := (hL.1 d hd).2.2.2.2.2.2.2
  unfold acr
  split <;> omega
theorem jn_mm {d h : Nat} : jn L d h = true ↔ h = min (L.2.2.1 d) (L.2.2.2.1 d) ∨ h = max (L.2.2.1 d) (L.2.2.2.1 d) := by
  unfold jn
  rw [Bool.or_eq_true, beq_iff_eq, beq_iff_eq]
  omega
theorem s_all21 {n T : Nat} {u : (Nat → Int32) × Int32} (R : rLoom v L) (hks : ks < 1024) (hn : n < 1024) (hI : indep L n) {Q : Int32 → WaysV → Prop} {Done0 : Sp → Sp → Prop} (hQ : ∀ few' a Done', a ≤ 40 → SR L ks goal f0 few' (T + a) Done' → (∀ s t, Done0 s t → Done' s t) → (∀ h t, h < 6 → Ed L ks (n, h) t → Done' (n, h) t) → Q (nI a) (few', u)) : ∀ k d few a Done, d + k = 10 → a ≤ 4 * d → SR L ks goal f0 few (T + a) Done → (∀ s t, Done0 s t → Done s t) → (∀ e, e < d → ∀ h t, h < 6 → EdD L ks e (n, h) t → Done (n, h) t) → wp_X7_lessenAll_L21 v (nI n) (nI (dif (dif ks n) (held L n))) Q (k + 1) (nI a) (nI d) (few, u) := by
  intro k
  induction k with
  | zero =>
    intro d few a Done hd ha S h0 hD
    have hd : d = 10 := by omega
    subst hd
    exact ⟨fun _ => hQ few a Done (by omega) S h0 (fun h t hh ht => by obtain ⟨e, he, ht⟩ := ht; exact hD e he h t hh ht), fun z => absurd (ge_self _) z⟩
  | succ k ih =>
    intro d few a Done hd ha S h0 hD
    have hd10 : d < 10 := by omega
    have hk := R.1.1 d hd10
    have hlo6 : min (L.2.2.1 d) (L.2.2.2.1 d) < 6 := by omega
    have hhi6 : max (L.2.2.1 d) (L.2.2.2.1 d) < 6 := by omega
    have hlo : okP L (n, min (L.2.2.1 d) (L.2.2.2.1 d)) := ⟨hn, hlo6, hI⟩
    have hhi : okP L (n, max (L.2.2.1 d) (L.2.2.2.1 d)) := ⟨hn, hhi6, hI⟩
    have jlo : jn L d (min (L.2.2.1 d) (L.2.2.2.1 d)) = true := jn_mm.mpr (Or.inl rfl)
    have jhi : jn L d (max (L.2.2.1 d) (L.2.2.2.1 d)) = true := jn_mm.mpr (Or.inr rfl)
    have amin := acr_min R.1 hd10
    have amax := acr_max R.1 hd10
    have nxt : ∀ few' a' Done', a' ≤ 4 * (d + 1) → SR L ks goal f0 few' (T + a') Done' → (∀ s t, Done s t → Done' s t) → (∀ h t, h < 6 → EdD L ks d (n, h) t → Done' (n, h) t) → wp_X7_lessenAll_L21 v (nI n) (nI (dif (dif ks n) (held L n))) Q (k + 1) (nI a') (nI (d + 1)) (few', u) := by
      intro few' a' Done' ha' S' h1 h2
      refine ih (d + 1) few' a' Done' (by omega) ha' S' (fun s t h => h1 s t (h0 s t h)) (fun e he h t hh ht => ?_)
      by_cases hed : e = d
      · subst hed; exact h2 h t hh ht
      · exact h1 _ _ (hD e (by omega) h t hh ht)
    refine ⟨fun z => absurd z (ge_no hd10 (by decide)), fun _ => s_lesserHall R hd10 (s_greaterHall R hd10 (s_has (by omega) (by omega) ?_))⟩
    cases hb : n.testBit d
    · have hcl : dif (dif ks n) (held L n) < 1024 := dif_lt (k := 10) (dif_lt (k := 10) hks)
      refine ⟨fun _ => s_has (by omega) (by omega) ?_, fun z => absurd rfl z⟩
      have hh10 : (dif (dif ks n) (held L n)).testBit d = (ks.testBit d && !(held L n).testBit d) := by
        rw [dif_bit, dif_bit, hb]; simp
      rw [hh10]
      cases hc : (ks.testBit d && !(held L n).testBit d)
      · have stay := nxt few a Done (by omega) S (fun _ _ h => h) (fun h t hh ht => ?_)
        · refine ⟨fun _ => ?_, fun z => absurd rfl z⟩
          rintro _ rfl
          rw [nI_s]
          exact stay
        obtain ⟨-, ht | ht⟩ := ht
        · have : n.testBit d = true := ht.1
          rw [this] at hb; cases hb
        · have a2 := ht.2.1
          have a3 : (held L n).testBit d = false := ht.2.2.1
          rw [a2, a3] at hc; cases hc
      · simp only [Bool.and_eq_true, Bool.not_eq_true'] at hc
        obtain ⟨c1, c2⟩ := hc
        have e1 : EdD L ks d (n, min (L.2.2.1 d) (L.2.2.2.1 d)) (afterO L n d, min (L.2.2.1 d) (L.2.2.2.1 d)) := ⟨jlo, Or.inr ⟨hb, c1, c2, rfl⟩⟩
        have e2 : EdD L ks d (n, max (L.2.2.1 d) (L.2.2.2.1 d)) (afterO L n d, max (L.2.2.1 d) (L.2.2.2.1 d)) := ⟨jhi, Or.inr ⟨hb, c1, c2, rfl⟩⟩
        refine ⟨fun z => absurd z one0, fun _ => s_afterOpening R hd10 hn (s_B125e S hlo hhi (EdD_ok R.1 hd10 hlo e1) (EdD_ok R.1 hd10 hhi e2) ⟨d, hd10, e1⟩ ⟨d, hd10, e2⟩ (fun few' a' ha' S' => nxt few' a' _ (by omega) S' (fun s t h => Or.inl (Or.inl h)) (fun h t hh ht => ?_)))⟩
        obtain ⟨hj, ht | ht⟩ := ht
        · have : n.testBit d = true := ht.1
          rw [this] at hb; cases hb
        · have ht := ht.2.2.2
          rcases jn_mm.mp hj with y | y
          · have y : h = min (L.2.2.1 d) (L.2.2.2.1 d) := y
            subst y
            exact Or.inl (Or.inr ⟨rfl, ht⟩)
          · have y : h = max (L.2.2.1 d) (L.2.2.2.1 d) := y
            subst y
            exact Or.inr ⟨rfl, ht⟩
    · have e1 : EdD L ks d (n, min (L.2.2.1 d) (L.2.2.2.1 d)) (n, max (L.2.2.1 d) (L.2.2.2.1 d)) := ⟨jlo, Or.inl ⟨hb, Or.inl (by show _ = (n, acr L d _); rw [amin])⟩⟩
      have e2 : EdD L ks d (n, max (L.2.2.1 d) (L.2.2.2.1 d)) (n, min (L.2.2.1 d) (L.2.2.2.1 d)) := ⟨jhi, Or.inl ⟨hb, Or.inl (by show _ = (n, acr L d _); rw [amax])⟩⟩
      have e3 : EdD L ks d (n, min (L.2.2.1 d) (L.2.2.2.1 d)) (dif n (2 ^ d), min (L.2.2.1 d) (L.2.2.2.1 d)) := ⟨jlo, Or.inl ⟨hb, Or.inr rfl⟩⟩
      have e4 : EdD L ks d (n, max (L.2.2.1 d) (L.2.2.2.1 d)) (dif n (2 ^ d), max (L.2.2.1 d) (L.2.2.2.1 d)) := ⟨jhi, Or.inl ⟨hb, Or.inr rfl⟩⟩
      refine ⟨fun z => absurd z one0, fun _ => s_spot (s_spot (s_lessen S hlo hhi ⟨d, hd10, e1⟩ (fun few1 r1 hr1 S1 => ?_)))⟩
      rintro _ rfl
      refine s_spot (s_spot (s_lessen S1 hhi hlo ⟨d, hd10, e2⟩ (fun few2 r2 hr2 S2 => ?_)))
      rintro _ rfl
      rw [nI_add, nI_add]
      rw [show T + a + r1 + r2 = T + (a + r1 + r2) by omega] at S2
      refine s_without hd10 (s_B125e S2 hlo hhi (EdD_ok R.1 hd10 hlo e3) (EdD_ok R.1 hd10 hhi e4) ⟨d, hd10, e3⟩ ⟨d, hd10, e4⟩ (fun few' a' ha' S' => nxt few' a' _ (by omega) S' (fun s t h => Or.inl (Or.inl (Or.inl (Or.inl h)))) (fun h t hh ht => ?_)))
      obtain ⟨hj, ht | ht⟩ := ht
      · rcases jn_mm.mp hj with y | y
        · have y : h = min (L.2.2.1 d) (L.2.2.2.1 d) := y
          subst y
          rcases ht.2 with ht | ht
          · refine Or.inl (Or.inl (Or.inl (Or.inr ⟨rfl, ?_⟩)))
            rw [ht]
            show (n, acr L d _) = _
            rw [amin]
          · exact Or.inl (Or.inr ⟨rfl, ht⟩)
        · have y : h = max (L.2.2.1 d) (L.2.2.2.1 d) := y
          subst y
          rcases ht.2 with ht | ht
          · refine Or.inl (Or.inl (Or.inr ⟨rfl, ?_⟩))
            rw [ht]
            show (n, acr L d _) = _
            rw [amax]
          · exact Or.inr ⟨rfl, ht⟩
      · have : n.testBit d = false := ht.1
        rw [this] at hb; cases hb
theorem s_lessenAll {n T : Nat} {u : (Nat → Int32) × Int32} (R : rLoom v L) (hks : ks < 1024) (hn : n < 1024) (hI : indep L n) {Q : Int32 → WaysV → Prop} {few : Nat → Int32} {Done : Sp → Sp → Prop} (S : SR L ks goal f0 few T Done) (hQ : ∀ few' a Done', a ≤ 40 → SR L ks goal f0 few' (T + a) Done' → (∀ s t, Done s t → Done' s t) → (∀ h t, h < 6 → Ed L ks (n, h) t → Done' (n, h) t) → Q (nI a) (few', u)) : wp_X7_lessenAll (few, u) v (nI n) (nI ks) Q := by
  refine s_heldBy R hn ?_
  rw [q_andn, q_andn]
  rintro _ rfl
  exact ⟨11, s_all21 R hks hn hI hQ 10 0 few 0 Done rfl (by omega) S (fun _ _ h => h) (fun e he => absurd he (Nat.not_lt_zero e))⟩
end Way1
