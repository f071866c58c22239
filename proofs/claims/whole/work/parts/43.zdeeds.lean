/-! PURE: the reference's deeds -/
section ZDeeds
variable {v : ModV} {σ : SS2} {d g : Nat} {Q : Int32 → ModV → Prop}
theorem z_refuse {r : Int32} (R : rZ v.1 σ) (hQ : ∀ z', rZ z' (reS σ) → Q r (z', v.2)) : wp_X9_refuse v r Q := by
  unfold wp_X9_refuse
  refine ⟨in85 (k := 5) (by decide), in85 (k := 5) (by decide), ?_⟩
  rintro _ rfl
  refine hQ _ (rZ_updH (k := 5) R (by decide) (fun i hi => ?_) (fun e u he hu => rfl) (fun g u hg hu => rfl))
  have h5 : v.1 (5 : Int32).toNatClampNeg = zH σ 5 := rZ_H R (by decide)
  rw [h5]
  revert i
  exact i6 rfl rfl rfl rfl rfl rfl
theorem z_openNow (R : rZ v.1 σ) (hok : okL σ.1) (hop : σ.2.1 < 1024) (hd : d < 10) (hQ : ∀ z', rZ z' (oU σ (rsn σ.1 σ.2.1 d) d) → Q (nI (oA σ (rsn σ.1 σ.2.1 d) d)) (z', v.2)) : wp_X9_openNow v (nI d) Q := by
  unfold wp_X9_openNow
  refine z_reason R hok hd ?_
  have h7 := rsn_lt σ.1 σ.2.1 d
  rw [l0, q_le (by omega) (by decide)]
  refine ⟨fun z => ?_, fun z => ?_⟩
  · have z0 : rsn σ.1 σ.2.1 d = 0 := by omega
    rw [z0] at hQ
    refine z_opens R hok hop hd (fun z' R' => ?_)
    rw [l10, nI_add]
    exact hQ z' R'
  · have z0 : ¬ rsn σ.1 σ.2.1 d = 0 := by omega
    have e : oU σ (rsn σ.1 σ.2.1 d) d = reS σ := if_neg z0
    have e2 : oA σ (rsn σ.1 σ.2.1 d) d = rsn σ.1 σ.2.1 d := if_neg z0
    rw [e, e2] at hQ
    exact z_refuse R hQ
theorem z_shutNow (R : rZ v.1 σ) (hd : d < 10) (hQ : ∀ z', rZ z' (sU σ (if σ.2.1.testBit d then 0 else 3) d) → Q (nI (sA (if σ.2.1.testBit d then 0 else 3))) (z', v.2)) : wp_X9_shutNow v (nI d) Q := by
  unfold wp_X9_shutNow
  refine z_isOpen R hd ?_
  cases hb : σ.2.1.testBit d <;> rw [hb] at hQ
  · exact ⟨fun z => absurd rfl z, fun _ => z_refuse R hQ⟩
  · exact ⟨fun _ => z_shuts R hd (Or.inl rfl) (fun z' R' => hQ z' R'), fun z => absurd z (by decide)⟩
theorem z_isAt {P : Int32 → Prop} (R : rZ v.1 σ) (hok : okS σ) (hg : g < 3) (hd : d < 10) (hP : P (if jn σ.1 d (σ.2.2.1.1 g) then 1 else 0)) : wp_X9_isAt v (nI g) (nI d) P := by
  unfold wp_X9_isAt
  exact z_ofGuest R hg 0 (by decide) (z_joins R hok.1 hd (hok.2.2.2 g hg).1 hP)
theorem z_hasKey {P : Int32 → Prop} (R : rZ v.1 σ) (hok : okS σ) (hg : g < 3) (hd : d < 10) (hP : P (if (σ.2.2.1.2.1 g).testBit d then 1 else 0)) : wp_X9_hasKey v (nI g) (nI d) P := by
  unfold wp_X9_hasKey
  refine z_ofGuest R hg 1 (by decide) ?_
  have hk := (hok.2.2.2 g hg).2
  show ((¬ (nI (σ.2.2.1.2.1 g) >>> (nI d &&& 31)) &&& (1 : Int32) = 1) → P 0) ∧ (((nI (σ.2.2.1.2.1 g) >>> (nI d &&& 31)) &&& (1 : Int32) = 1) → P 1)
  rw [q_has1 (by omega) (by omega)]
  cases hb : (σ.2.2.1.2.1 g).testBit d <;> rw [hb] at hP
  · exact ⟨fun _ => hP, fun z => absurd z (by decide)⟩
  · exact ⟨fun z => absurd rfl z, fun _ => hP⟩
theorem z_guestOpensNow (R : rZ v.1 σ) (hok : okS σ) (hg : g < 3) (hd : d < 10) (hQ : ∀ z', rZ z' (oU σ (rsnG σ g d) d) → Q (nI (oA σ (rsnG σ g d) d)) (z', v.2)) : wp_X9_guestOpensNow v (nI g) (nI d) Q := by
  unfold wp_X9_guestOpensNow
  refine z_isAt R hok hg hd ?_
  unfold rsnG at hQ
  cases hb : jn σ.1 d (σ.2.2.1.1 g) <;> rw [hb] at hQ
  · exact ⟨fun z => absurd rfl z, fun _ => z_refuse R hQ⟩
  · refine ⟨fun _ => z_hasKey R hok hg hd ?_, fun z => absurd z (by decide)⟩
    cases hc : (σ.2.2.1.2.1 g).testBit d <;> rw [hc] at hQ
    · exact ⟨fun _ => z_refuse R hQ, fun z => absurd rfl z⟩
    · exact ⟨fun z => absurd z (by decide), fun _ => z_openNow R hok.1 hok.2.1 hd hQ⟩
theorem z_guestShutsNow (R : rZ v.1 σ) (hok : okS σ) (hg : g < 3) (hd : d < 10) (hQ : ∀ z', rZ z' (sU σ (rsnU σ g d) d) → Q (nI (sA (rsnU σ g d))) (z', v.2)) : wp_X9_guestShutsNow v (nI g) (nI d) Q := by
  unfold wp_X9_guestShutsNow
  refine z_isAt R hok hg hd ?_
  unfold rsnU at hQ
  cases hb : jn σ.1 d (σ.2.2.1.1 g) <;> rw [hb] at hQ
  · exact ⟨fun _ => z_refuse R hQ, fun z => absurd rfl z⟩
  · exact ⟨fun z => absurd z (by decide), fun _ => z_shutNow R hd hQ⟩
theorem z_across {P : Int32 → Prop} {h : Nat} (R : rZ v.1 σ) (hok : okL σ.1) (hd : d < 10) (hh : h < 6) (hP : P (nI (acr σ.1 d h))) : wp_X9_across v (nI d) (nI h) P := by
  have hk := hok.1 d hd
  unfold wp_X9_across
  refine z_of R hd 1 (by decide) ?_
  show ((¬ nI (σ.1.2.2.1 d) = nI h) → _) ∧ ((nI (σ.1.2.2.1 d) = nI h) → _)
  rw [q_eq (by omega) (by omega)]
  unfold acr at hP
  exact ⟨fun z => z_of R hd 1 (by decide) (by rwa [if_neg z] at hP), fun z => z_of R hd 2 (by decide) (by rwa [if_pos z] at hP)⟩
theorem z_walkNow (R : rZ v.1 σ) (hok : okS σ) (hg : g < 3) (hd : d < 10) (hQ : ∀ z', rZ z' (wU σ g d) → Q (nI (wA σ g d)) (z', v.2)) : wp_X9_walkNow v (nI g) (nI d) Q := by
  have B17 : ¬ rsnU σ g d = 0 → wp_X9_walkNow_B17 (nI g) (nI d) v Q := by
    intro z0
    have e : wU σ g d = reS σ := if_neg z0
    have e2 : wA σ g d = rsnU σ g d := if_neg z0
    rw [e, e2] at hQ
    unfold wp_X9_walkNow_B17
    refine z_isAt R hok hg hd ?_
    unfold rsnU at hQ z0
    cases hb : jn σ.1 d (σ.2.2.1.1 g) <;> rw [hb] at hQ z0
    · exact ⟨fun _ => z_refuse R hQ, fun z => absurd rfl z⟩
    · cases hc : σ.2.1.testBit d <;> rw [hc] at hQ z0
      · exact ⟨fun z => absurd z (by decide), fun _ => z_refuse R hQ⟩
      · exact absurd rfl z0
  unfold wp_X9_walkNow
  refine z_isAt R hok hg hd ?_
  cases hb : jn σ.1 d (σ.2.2.1.1 g)
  · exact ⟨fun _ => B17 (by unfold rsnU; rw [hb]; exact (show ¬ (5 : Nat) = 0 by decide)), fun z => absurd rfl z⟩
  · refine ⟨fun z => absurd z (by decide), fun _ => z_isOpen R hd ?_⟩
    cases hc : σ.2.1.testBit d
    · exact ⟨fun z => absurd rfl z, fun _ => B17 (by unfold rsnU; rw [hb, hc]; exact (show ¬ (3 : Nat) = 0 by decide))⟩
    · refine ⟨fun _ => ?_, fun z => absurd z (by decide)⟩
      have z0 : rsnU σ g d = 0 := by unfold rsnU; rw [hb, hc]; rfl
      have e : wU σ g d = wkS σ g d := if_pos z0
      have e2 : wA σ g d = 10 + acr σ.1 d (σ.2.2.1.1 g) := if_pos z0
      rw [e, e2] at hQ
      have hh := (hok.2.2.2 g hg).1
      refine z_ofGuest R hg 0 (by decide) (z_across R hok.1 hd hh ?_)
      rw [show (0 : Int32) = nI 0 from rfl, show (2 : Int32) = nI 2 from rfl, zixG, zixG, q_in (by omega), nI_clamp (by omega), q_in (by omega), nI_clamp (by omega)]
      refine ⟨by omega, ?_⟩
      rintro _ rfl
      refine ⟨by omega, by omega, ?_⟩
      rintro _ rfl
      rw [l10, nI_add]
      obtain ⟨σ1, e1⟩ : ∃ σ1 : SS2, σ1 = (σ.1, σ.2.1, (updN σ.2.2.1.1 g (acr σ.1 d (σ.2.2.1.1 g)), σ.2.2.1.2), σ.2.2.2) := ⟨_, rfl⟩
      have R1 : rZ (upd v.1 (76 + 3 * g + 0) (nI (acr σ.1 d (σ.2.2.1.1 g)))) σ1 := by
        refine rZ_updG R hg (by decide) (fun i hi => by rw [e1]; rfl) (fun e u he hu => by rw [e1]; rfl) (fun e u he hu => ?_)
        rw [e1]
        revert u
        refine i3 ?_ ?_ ?_
        · show nI (updN σ.2.2.1.1 g (acr σ.1 d (σ.2.2.1.1 g)) e) = if e = g ∧ 0 = 0 then _ else nI (σ.2.2.1.1 e)
          unfold updN
          by_cases heg : e = g <;> simp [heg]
        · rw [if_neg (by omega)]; rfl
        · rw [if_neg (by omega)]; rfl
      refine hQ _ (rZ_updG R1 hg (by decide) (fun i hi => by rw [e1]; rfl) (fun e u he hu => by rw [e1]; rfl) (fun e u he hu => ?_))
      rw [rZ_G R1 hg (by decide), e1]
      revert u
      refine i3 ?_ ?_ ?_
      · rw [if_neg (by omega)]; rfl
      · rw [if_neg (by omega)]; rfl
      · show upd σ.2.2.1.2.2 g (σ.2.2.1.2.2 g + 1) e = if e = g ∧ 2 = 2 then σ.2.2.1.2.2 g + 1 else σ.2.2.1.2.2 e
        unfold upd
        by_cases heg : e = g <;> simp [heg]
end ZDeeds
theorem z_copyState {N0 N1 o0 o1 : Nat} {f g : Nat → Int32} {Q : (Nat → Int32) → Prop} (h0 : o0 + 85 ≤ N0) (h1 : o1 + 85 ≤ N1) (hN0 : N0 < 1000) (hN1 : N1 < 1000) (hQ : ∀ u : Nat → Int32, (∀ j, j < 85 → u (o1 + j) = f (o0 + j)) → (∀ i, (i < o1 ∨ o1 + 85 ≤ i) → u i = g i) → Q u) : wp_X9_copyState N0 N1 f g (nI o0) (nI o1) Q := by
  have key : ∀ k i (u : Nat → Int32), i + k = 85 → (∀ j, j < i → u (o1 + j) = f (o0 + j)) → (∀ j, (j < o1 ∨ o1 + i ≤ j) → u j = g j) → wp_X9_copyState_L3 N0 N1 f (nI o0) (nI o1) Q (k + 1) (nI i) u := by
    intro k
    induction k with
    | zero =>
      intro i u hi h2 h3
      have hi : i = 85 := by omega
      subst hi
      exact ⟨fun _ => hQ u h2 h3, fun z => absurd (ge_self _) z⟩
    | succ k ih =>
      intro i u hi h2 h3
      have hi85 : i < 85 := by omega
      refine ⟨fun z => absurd z (ge_no hi85 (by decide)), fun _ => ?_⟩
      rw [nI_add, nI_add, q_in (by omega), q_in (by omega), nI_clamp (by omega), nI_clamp (by omega)]
      refine ⟨by omega, by omega, ?_⟩
      rintro _ rfl _ rfl
      rw [nI_s]
      refine ih (i + 1) _ (by omega) (fun j hj => ?_) (fun j hj => ?_)
      · by_cases hji : j = i
        · subst hji; exact updS
        · rw [updO (by omega)]; exact h2 j (by omega)
      · rw [updO (by omega)]; exact h3 j (by omega)
  exact ⟨86, key 85 0 g (by omega) (fun j hj => absurd hj (Nat.not_lt_zero j)) (fun j _ => rfl)⟩
/-- the set of doors, as bits -/
theorem z_openSet {v : ModV} {σ : SS2} {Q : Int32 → Prop} (R : rZ v.1 σ) (hop : σ.2.1 < 1024) (hQ : Q (nI σ.2.1)) : wp_X9_openSet v Q := by
  have e10 : σ.2.1 % 2 ^ 10 = σ.2.1 := Nat.mod_eq_of_lt hop
  rw [← e10] at hQ
  have key : ∃ n, wp_X9_openSet_L4 v Q n (nI (σ.2.1 % 2 ^ 0)) (0 : Int32) := by
   refine loop_f (fun k i s => wp_X9_openSet_L4 v Q k s i) 10 (fun i => nI (σ.2.1 % 2 ^ i)) ?_ ?_
   · intro k; exact ⟨fun _ => hQ, fun z => absurd (ge_self _) z⟩
   · intro k i hi ih
     refine ⟨fun z => absurd z (ge_no hi (by decide)), fun _ => z_of R hi 0 (by decide) ?_⟩
     rintro _ rfl _ rfl
     rw [nI_s]
     have e : nI (σ.2.1 % 2 ^ i) ||| (zD σ i 0 <<< (nI i &&& 31)) = nI (σ.2.1 % 2 ^ (i + 1)) := by
       show nI (σ.2.1 % 2 ^ i) ||| ((if σ.2.1.testBit i then (1 : Int32) else 0) <<< (nI i &&& 31)) = _
       have hm : σ.2.1 % 2 ^ (i + 1) = σ.2.1 % 2 ^ i ||| (if σ.2.1.testBit i then 2 ^ i else 0) := by
         refine bits_eq (fun e => ?_)
         rw [Nat.testBit_mod_two_pow, Nat.testBit_or, Nat.testBit_mod_two_pow]
         by_cases hei : e = i
         · subst hei
           cases hb : σ.2.1.testBit e <;> simp
         · have h1 : decide (e < i + 1) = decide (e < i) := decide_eq_decide.mpr (by omega)
           have h2 : (if σ.2.1.testBit i then 2 ^ i else 0).testBit e = false := by
             split
             · rw [p2_bit]; simp; omega
             · simp
           rw [h1, h2, Bool.or_false]
       rw [hm]
       cases hb : σ.2.1.testBit i
       · have h0 : ∀ j, j < 10 → (0 : Int32) <<< (nI j &&& 31) = nI 0 := by decide
         show nI (σ.2.1 % 2 ^ i) ||| ((0 : Int32) <<< (nI i &&& 31)) = nI (σ.2.1 % 2 ^ i ||| 0)
         rw [h0 i hi, q_or]
       · show nI (σ.2.1 % 2 ^ i) ||| ((1 : Int32) <<< (nI i &&& 31)) = nI (σ.2.1 % 2 ^ i ||| 2 ^ i)
         rw [q_sh1 (by omega), q_or]
     rw [e]
     exact ih
  rw [show σ.2.1 % 2 ^ 0 = 0 from Nat.mod_one _] at key
  exact key
