/-! PURE: pairs: join, keys, draft, cord, append, clear, why -/
theorem heldF_cords {L L' : LoS} (h : ∀ d, tg L' d = tg L d) (n : Nat) : ∀ k, heldF L' n k = heldF L n k
  | 0 => rfl
  | k + 1 => by unfold heldF; rw [heldF_cords h n k, h k]
theorem held_cords {L L' : LoS} (h : ∀ d, tg L' d = tg L d) (n : Nat) : held L' n = held L n := heldF_cords h n 10
theorem dF_halls {L L' : LoS} (g : ∀ d h, jn L' d h = jn L d h) (h : Nat) : ∀ k, dF L' h k = dF L h k
  | 0 => rfl
  | k + 1 => by unfold dF; rw [dF_halls g h k, g k h]
theorem doors_halls {L L' : LoS} (g : ∀ d h, jn L' d h = jn L d h) (h : Nat) : doors L' h = doors L h := dF_halls g h 10
section ZSpec2
variable {v : ModV} {σ : SS2} {d g h : Nat}
theorem z_lesserHall {P : Int32 → Prop} (R : rZ v.1 σ) (hok : okL σ.1) (hd : d < 10) (hP : P (nI (min (σ.1.2.2.1 d) (σ.1.2.2.2.1 d)))) : wp_X9_lesserHall v (nI d) P := by
  have hk := hok.1 d hd
  refine z_of R hd 1 (by decide) (z_of R hd 2 (by decide) ?_)
  show ((nI (σ.1.2.2.2.1 d) ≤ nI (σ.1.2.2.1 d)) → _) ∧ ((¬ nI (σ.1.2.2.2.1 d) ≤ nI (σ.1.2.2.1 d)) → _)
  rw [q_le (by omega) (by omega)]
  refine ⟨fun z => z_of R hd 2 (by decide) ?_, fun z => z_of R hd 1 (by decide) ?_⟩
  · rw [Nat.min_eq_right z] at hP
    exact hP
  · rw [Nat.min_eq_left (by omega)] at hP
    exact hP
theorem z_greaterHall {P : Int32 → Prop} (R : rZ v.1 σ) (hok : okL σ.1) (hd : d < 10) (hP : P (nI (max (σ.1.2.2.1 d) (σ.1.2.2.2.1 d)))) : wp_X9_greaterHall v (nI d) P := by
  refine z_of R hd 1 (by decide) (z_of R hd 2 (by decide) (z_lesserHall R hok hd ?_))
  show P ((nI (σ.1.2.2.1 d) + nI (σ.1.2.2.2.1 d)) - _)
  rw [nI_add, pk_sub (by omega)]
  have e : σ.1.2.2.1 d + σ.1.2.2.2.1 d - min (σ.1.2.2.1 d) (σ.1.2.2.2.1 d) = max (σ.1.2.2.1 d) (σ.1.2.2.2.1 d) := by omega
  rw [e]
  exact hP
end ZSpec2
section Pairs2
variable {v : CDV} {w : ModV} {Q : Int32 → CDV → Prop} {i j l : Int32}
theorem p_join (hR : RR v w) (hQ : ∀ r v', (∀ K : Int32 → ModV → Prop, (∀ w', RR v' w' → K r w') → wp_X9_join w i j l K) → Q r v') : wp_X8_join v i j l Q := by
  rcases rng i (N := 10) (by decide) with ⟨d, hd, rfl⟩ | h
  · rcases rng j (N := 6) (by decide) with ⟨o1, h1, rfl⟩ | h
    · rcases rng l (N := 6) (by decide) with ⟨o2, h2, rfl⟩ | h
      · refine d8t hd ⟨fun z => absurd z one0, fun _ => h8t h1 ⟨fun z => absurd z one0, fun _ => h8t h2 ⟨fun z => absurd z one0, fun _ => ?_⟩⟩⟩
        have tail : ∀ {K : Int32 → ModV → Prop}, _ → wp_X9_join w (nI d) (nI o1) (nI o2) K := fun {K} y => d9t hd ⟨fun z => absurd z one0, fun _ => h9t h1 ⟨fun z => absurd z one0, fun _ => h9t h2 ⟨fun z => absurd z one0, fun _ => y⟩⟩⟩
        refine ⟨fun hne => ?_, fun he => hQ _ _ (fun K hK => tail ⟨fun z => absurd he z, fun _ => hK _ hR⟩)⟩
        have hne' : o1 ≠ o2 := fun z => hne (by rw [z])
        obtain ⟨σ, R, Z, ⟨hs, k, H, hn, hp⟩, hkp, hpd, hsp⟩ := hR
        have hok := R.1
        refine s_isOpen R (by omega) ?_
        cases hb : σ.2.1.testBit d
        · refine ⟨fun _ => s_record R H (fun u hu => s_lesserHall R.2.1 hd (s_greaterHall R.2.1 hd ?_)), fun z => absurd rfl z⟩
          rintro _ rfl
          refine s_hangL R.2.1 hd h1 h2 hne' (fun v' hv' => hQ _ _ (fun K hK => tail ⟨fun _ => ?_, fun z => absurd z hne⟩))
          refine z_isOpen Z hd ?_
          rw [hb]
          refine ⟨fun _ => z_record Z H.1 hn hp (fun p hp' => ?_), fun z => absurd rfl z⟩
          refine z_lesserHall (v := (w.1, w.2.1, p, nI (pushK k), w.2.2.2.2)) Z hok.1 hd (z_greaterHall (v := (w.1, w.2.1, p, nI (pushK k), w.2.2.2.2)) Z hok.1 hd ?_)
          rintro _ rfl
          refine z_lay (v := (w.1, w.2.1, p, nI (pushK k), w.2.2.2.2)) hd 1 (by decide) ?_
          refine z_lay (v := (upd w.1 (6 + 7 * d + 1) (nI o1), w.2.1, p, nI (pushK k), w.2.2.2.2)) hd 2 (by decide) ?_
          obtain ⟨σ1, e1⟩ : ∃ σ1 : SS2, σ1 = ((σ.1.1, σ.1.2.1, updN σ.1.2.2.1 d o1, σ.1.2.2.2), σ.2) := ⟨_, rfl⟩
          have R1 : rZ (upd w.1 (6 + 7 * d + 1) (nI o1)) σ1 := by
            refine rZ_updD Z hd (by decide) (fun i hi => ?_) (fun e u he hu => ?_) (fun g u hg hu => by rw [e1]; rfl)
            · rw [e1]; revert i; exact i6 rfl rfl rfl rfl rfl rfl
            · rw [e1]
              revert u
              refine i7 ?_ ?_ ?_ ?_ ?_ ?_ ?_
              all_goals try (rw [if_neg (by omega)]; rfl)
              show nI (updN σ.1.2.2.1 d o1 e) = if e = d ∧ 1 = 1 then nI o1 else nI (σ.1.2.2.1 e)
              unfold updN
              by_cases hed : e = d <;> simp [hed]
          have R2 : rZ (upd (upd w.1 (6 + 7 * d + 1) (nI o1)) (6 + 7 * d + 2) (nI o2)) (setH σ.1 d o1 o2, σ.2) := by
            refine rZ_updD R1 hd (by decide) (fun i hi => ?_) (fun e u he hu => ?_) (fun g u hg hu => by rw [e1]; rfl)
            · rw [e1]; revert i; exact i6 rfl rfl rfl rfl rfl rfl
            · rw [e1]
              revert u
              refine i7 ?_ ?_ ?_ ?_ ?_ ?_ ?_
              all_goals try (rw [if_neg (by omega)]; rfl)
              show nI (updN σ.1.2.2.2.1 d o2 e) = if e = d ∧ 2 = 2 then nI o2 else nI (σ.1.2.2.2.1 e)
              unfold updN
              by_cases hed : e = d <;> simp [hed]
          refine hK _ ⟨(setH σ.1 d o1 o2, σ.2), ⟨⟨okL_setH hok.1 h1 h2 hne', hok.2.1, ?_, hok.2.2.2⟩, hv', R.2.2⟩, R2, ⟨_, _, hu, rfl, hp'⟩, hkp, hpd, hsp⟩
          show held (setH σ.1 d o1 o2) σ.2.1 &&& σ.2.1 = 0
          rw [held_cords (L := σ.1) (L' := setH σ.1 d o1 o2) (fun d => rfl)]
          exact hok.2.2.1
        · refine ⟨fun z => absurd z one0, fun _ => hQ _ _ (fun K hK => tail ⟨fun _ => z_isOpen Z hd ?_, fun z => absurd z hne⟩)⟩
          rw [hb]
          exact ⟨fun z => absurd z one0, fun _ => hK _ ⟨σ, R, Z, ⟨hs, k, H, hn, hp⟩, hkp, hpd, hsp⟩⟩
      · exact d8t hd ⟨fun z => absurd z one0, fun _ => h8t h1 ⟨fun z => absurd z one0, fun _ => h8f h ⟨fun _ => hQ _ _ (fun K hK => d9t hd ⟨fun z => absurd z one0, fun _ => h9t h1 ⟨fun z => absurd z one0, fun _ => h9f h ⟨fun _ => hK _ hR, fun z => absurd rfl z⟩⟩⟩), fun z => absurd rfl z⟩⟩⟩
    · exact d8t hd ⟨fun z => absurd z one0, fun _ => h8f h ⟨fun _ => hQ _ _ (fun K hK => d9t hd ⟨fun z => absurd z one0, fun _ => h9f h ⟨fun _ => hK _ hR, fun z => absurd rfl z⟩⟩), fun z => absurd rfl z⟩⟩
  · exact d8f h ⟨fun _ => hQ _ _ (fun K hK => d9f h ⟨fun _ => hK _ hR, fun z => absurd rfl z⟩), fun z => absurd rfl z⟩
theorem p_keys (hR : RR v w) (hQ : ∀ r v', (∀ K : Int32 → ModV → Prop, (∀ w', RR v' w' → K r w') → wp_X9_keys w i j K) → Q r v') : wp_X8_keys v i j Q := by
  rcases rng i (N := 3) (by decide) with ⟨g, hg, rfl⟩ | h
  · rcases rng j (N := 1024) (by decide) with ⟨n, hn1, rfl⟩ | h
    · obtain ⟨σ, R, Z, ⟨hs, k, H, hn, hp⟩, hkp, hpd, hsp⟩ := hR
      have hok := R.1
      have hG := R.2.2.1
      refine g8t hg ⟨fun z => absurd z one0, fun _ => t8t hn1 ⟨fun _ => s_record R H (fun u hu => ?_), fun z => absurd z one0⟩⟩
      rw [q_in (by omega), nI_clamp (by omega)]
      refine ⟨hg, ?_⟩
      rintro _ rfl
      refine ⟨hg, ?_⟩
      rintro _ rfl
      rw [(hG g hg).2.1]
      refine hQ _ _ (fun K hK => g9t hg ⟨fun z => absurd z one0, fun _ => in9t (a := 0) (b := 1023) (by omega) (by omega) (by decide) ⟨fun _ => z_record Z H.1 hn hp (fun p hp' => ?_), fun z => absurd z one0⟩⟩)
      refine z_ofGuest (v := (w.1, w.2.1, p, nI (pushK k), w.2.2.2.2)) Z hg 1 (by decide) ?_
      rw [show (1 : Int32) = nI 1 from rfl, zixG, q_in (by omega), nI_clamp (by omega)]
      refine ⟨by omega, ?_⟩
      rintro _ rfl
      refine hK _ ⟨(σ.1, σ.2.1, (σ.2.2.1.1, updN σ.2.2.1.2.1 g n, σ.2.2.1.2.2), σ.2.2.2), ⟨⟨hok.1, hok.2.1, hok.2.2.1, fun i hi => ⟨(hok.2.2.2 i hi).1, ?_⟩⟩, R.2.1, fun i hi => ⟨(hG i hi).1, ?_, (hG i hi).2.2⟩, R.2.2.2⟩, ?_, ⟨_, _, hu, rfl, hp'⟩, hkp, hpd, hsp⟩
      · show updN σ.2.2.1.2.1 g n i < 1024
        unfold updN
        split
        · exact hn1
        · exact (hok.2.2.2 i hi).2
      · exact un_ok (N := 3) (fun j hj => (hG j hj).2.1) rfl i hi
      · refine rZ_updG Z hg (by decide) (fun i hi => rfl) (fun e u he hu => rfl) (fun e u he hu => ?_)
        revert u
        refine i3 ?_ ?_ ?_
        · rw [if_neg (by omega)]; rfl
        · show nI (updN σ.2.2.1.2.1 g n e) = if e = g ∧ 1 = 1 then nI n else nI (σ.2.2.1.2.1 e)
          unfold updN
          by_cases heg : e = g <;> simp [heg]
        · rw [if_neg (by omega)]; rfl
    · exact g8t hg ⟨fun z => absurd z one0, fun _ => t8f h ⟨fun z => absurd rfl z, fun _ => hQ _ _ (fun K hK => g9t hg ⟨fun z => absurd z one0, fun _ => in9n (N := 1023) (by decide) h ⟨fun z => absurd rfl z, fun _ => hK _ hR⟩⟩)⟩⟩
  · exact g8f h ⟨fun _ => hQ _ _ (fun K hK => g9f h ⟨fun _ => hK _ hR, fun z => absurd rfl z⟩), fun z => absurd rfl z⟩
theorem p_draft (hR : RR v w) (hQ : ∀ r v', (∀ K : Int32 → ModV → Prop, (∀ w', RR v' w' → K r w') → wp_X9_draft w i K) → Q r v') : wp_X8_draft v i Q := by
  refine ⟨fun z => hQ _ _ (fun K hK => in9f (Or.inl z) ⟨fun z => absurd rfl z, fun _ => hK _ hR⟩), fun z1 => ⟨fun z2 => ?_, fun z2 => hQ _ _ (fun K hK => in9f (Or.inr (Int32.not_le.mp z2)) ⟨fun z => absurd rfl z, fun _ => hK _ hR⟩)⟩⟩
  have z0 : ¬ i < 0 := by
    intro y
    rw [Int32.lt_iff_toInt_lt] at y z1
    have a1 : (0 : Int32).toInt = 0 := by decide
    have a2 : (1 : Int32).toInt = 1 := by decide
    rw [a1] at y
    rw [a2] at z1
    omega
  obtain ⟨n, hn1, rfl⟩ := nI_of2 (n := 10) (by decide) z0 z2
  rw [l1, q_lt (by omega) (by decide)] at z1
  obtain ⟨σ, R, Z, ⟨hs, k, H, hn, hp⟩, hkp, hpd, hsp⟩ := hR
  have hok := R.1
  refine s_record R H (fun u hu => ?_)
  rintro _ rfl
  rw [R.2.1.2.2.2]
  refine hQ _ _ (fun K hK => in9t (a := 1) (b := 10) (by omega) (by omega) (by decide) ⟨fun _ => z_record Z H.1 hn hp (fun p hp' => ?_), fun z => absurd z one0⟩)
  refine ⟨in85 (k := 0) (by decide), ?_⟩
  rintro _ rfl
  refine ⟨in85 (k := 0) (by decide), ?_⟩
  rintro _ rfl
  have e0 : w.1 (0 : Int32).toNatClampNeg = nI σ.1.2.2.2.2 := rZ_H Z (i := 0) (by decide)
  rw [e0]
  refine hK _ ⟨((σ.1.1, σ.1.2.1, σ.1.2.2.1, σ.1.2.2.2.1, n), σ.2), ⟨⟨⟨hok.1.1, (show 1 ≤ n by omega), hn1⟩, hok.2.1, ?_, hok.2.2.2⟩, ⟨⟨hok.1.1, (show 1 ≤ n by omega), hn1⟩, R.2.1.2.1, fun h hh => ?_, rfl⟩, R.2.2⟩, ?_, ⟨_, _, hu, rfl, hp'⟩, hkp, hpd, hsp⟩
  · show held (σ.1.1, σ.1.2.1, σ.1.2.2.1, σ.1.2.2.2.1, n) σ.2.1 &&& σ.2.1 = 0
    rw [held_cords (L := σ.1) (L' := (σ.1.1, σ.1.2.1, σ.1.2.2.1, σ.1.2.2.2.1, n)) (fun d => rfl)]
    exact hok.2.2.1
  · show v.1.1.2.2.2.2.1 h = nI (doors (σ.1.1, σ.1.2.1, σ.1.2.2.1, σ.1.2.2.2.1, n) h)
    rw [doors_halls (L := σ.1) (L' := (σ.1.1, σ.1.2.1, σ.1.2.2.1, σ.1.2.2.2.1, n)) (fun d h => rfl)]
    exact R.2.1.2.2.1 h hh
  · refine rZ_updH (k := 0) Z (by decide) (fun i hi => ?_) (fun e u he hu => ?_) (fun g u hg hu => rfl)
    · revert i; exact i6 rfl rfl rfl rfl rfl rfl
    · revert u; exact i7 rfl rfl rfl rfl rfl rfl rfl
theorem p_append (hR : RR v w) (hQ : ∀ r v', (∀ K : Int32 → ModV → Prop, (∀ w', RR v' w' → K r w') → wp_X9_append w i K) → Q r v') : wp_X8_append v i Q := by
  refine ⟨fun z => hQ _ _ (fun K hK => in9f (Or.inl z) ⟨fun z => absurd rfl z, fun _ => hK _ hR⟩), fun z1 => ⟨fun z2 => ?_, fun z2 => hQ _ _ (fun K hK => in9f (Or.inr (Int32.not_le.mp z2)) ⟨fun z => absurd rfl z, fun _ => hK _ hR⟩)⟩⟩
  have z0 : ¬ i < 0 := by
    intro y
    rw [Int32.lt_iff_toInt_lt] at y z1
    have a1 : (0 : Int32).toInt = 0 := by decide
    have a2 : (33 : Int32).toInt = 33 := by decide
    rw [a1] at y
    rw [a2] at z1
    omega
  obtain ⟨n, hn1, rfl⟩ := nI_of2 (n := 126) (by decide) z0 z2
  rw [show (33 : Int32) = nI 33 from rfl, q_lt (by omega) (by decide)] at z1
  obtain ⟨σ, R, Z, hhp, hkp, ⟨m, cs, hm1, hm2, hm, hcs⟩, hsp⟩ := hR
  rw [hm1, l60, q_lt (by omega) (by decide)]
  refine ⟨fun z => ?_, fun z => hQ _ _ (fun K hK => in9t (a := 33) (b := 126) (by omega) (by omega) (by decide) ⟨fun _ => ⟨fun y => ?_, fun y => ?_⟩, fun z => absurd z one0⟩)⟩
  · unfold wp_X4_add
    rw [hm1, l60, q_le (by decide) (by omega), q_in (by omega), nI_clamp (by omega)]
    refine ⟨fun y => absurd y (by omega), fun _ => ⟨z, ?_⟩⟩
    rintro _ rfl _ rfl
    rw [nI_s]
    refine hQ _ _ (fun K hK => in9t (a := 33) (b := 126) (by omega) (by omega) (by decide) ⟨fun _ => ⟨fun y => ?_, fun y => ?_⟩, fun z => absurd z one0⟩)
    · rw [hm2, q_in (by omega), nI_clamp (by omega)]
      refine ⟨z, ?_⟩
      rintro _ rfl _ rfl
      rw [nI_s]
      refine hK _ ⟨σ, R, Z, hhp, hkp, ⟨m + 1, updN cs m n, rfl, rfl, by omega, fun i hi => ?_⟩, hsp⟩
      by_cases him : i = m
      · subst him
        refine ⟨updS.trans ?_, updS.trans ?_, ?_⟩
        · unfold updN; rw [if_pos rfl]
        · unfold updN; rw [if_pos rfl]
        · unfold updN; rw [if_pos rfl]; omega
      · obtain ⟨f1, f2, f3⟩ := hcs i (by omega)
        have e : updN cs m n i = cs i := if_neg him
        rw [e]
        exact ⟨(updO him).trans f1, (updO him).trans f2, f3⟩
    · rw [hm2, l60, q_eq (by omega) (by decide)] at y
      omega
  · rw [hm2, l60, q_eq (by omega) (by decide)] at y
    exact absurd (show m = 60 by omega) y
  · exact hK _ ⟨σ, R, Z, hhp, hkp, ⟨m, cs, hm1, hm2, hm, hcs⟩, hsp⟩
theorem p_clear (hR : RR v w) (hQ : ∀ r v', (∀ K : Int32 → ModV → Prop, (∀ w', RR v' w' → K r w') → wp_X9_clear w K) → Q r v') : wp_X8_clear v Q := by
  obtain ⟨σ, R, Z, hhp, hkp, ⟨m, cs, hm1, hm2, hm, hcs⟩, hsp⟩ := hR
  rintro _ rfl
  rw [hm1]
  refine hQ _ _ (fun K hK => ?_)
  rintro _ rfl
  rw [hm2]
  exact hK _ ⟨σ, R, Z, hhp, hkp, ⟨0, cs, rfl, rfl, by omega, fun i hi => absurd hi (Nat.not_lt_zero i)⟩, hsp⟩
theorem p_why {Q : Int32 → Prop} (hR : RR v w) (hQ : ∀ r, (∀ K : Int32 → Prop, K r → wp_X9_why w i K) → Q r) : wp_X8_why v i Q := by
  obtain ⟨σ, R, Z, hhp, hkp, hpd, hsp⟩ := hR
  refine ⟨?_, ?_, ?_, fun z0 z1 z2 => hQ _ (fun K hK => ⟨fun _ => ⟨fun _ => ⟨fun _ => hK, fun z => absurd z z2⟩, fun z => absurd z z1⟩, fun z => absurd z z0⟩)⟩
  · rintro rfl
    rcases hsp with ⟨h1, h2, h3, h4⟩ | ⟨h1, h2, h3, h4⟩
    · refine ⟨fun _ => ⟨fun _ => hQ _ (fun K hK => ⟨fun z => absurd rfl z, fun _ => ?_⟩), fun z => absurd rfl z⟩, fun z => absurd h1 z⟩
      rw [h2]; exact hK
    · refine ⟨fun z => absurd z h1, fun _ => ⟨fun z => absurd z one0, fun _ => hQ _ (fun K hK => ⟨fun z => absurd rfl z, fun _ => ?_⟩)⟩⟩
      rw [← h2]; exact hK
  · rintro rfl
    rcases hsp with ⟨h1, h2, h3, h4⟩ | ⟨h1, h2, h3, h4⟩
    · refine ⟨fun _ => ⟨fun _ => hQ _ (fun K hK => ⟨fun z => ⟨fun z => absurd rfl z, fun _ => ?_⟩, fun z => absurd z one0⟩), fun z => absurd rfl z⟩, fun z => absurd h1 z⟩
      rw [h3]; exact hK
    · refine ⟨fun z => absurd z h1, fun _ => ⟨fun z => absurd z one0, fun _ => hQ _ (fun K hK => ⟨fun z => ⟨fun z => absurd rfl z, fun _ => ?_⟩, fun z => absurd z one0⟩)⟩⟩
      rw [← h3]; exact hK
  · rintro rfl
    rcases hsp with ⟨h1, h2, h3, h4⟩ | ⟨h1, h2, h3, h4⟩
    · refine ⟨fun _ => ⟨fun _ => hQ _ (fun K hK => ⟨fun z => ⟨fun z => ⟨fun z => absurd rfl z, fun _ => ?_⟩, fun z => absurd z (by decide)⟩, fun z => absurd z (by decide)⟩), fun z => absurd rfl z⟩, fun z => absurd h1 z⟩
      rw [h4]; exact hK
    · refine ⟨fun z => absurd z h1, fun _ => ⟨fun z => absurd z one0, fun _ => hQ _ (fun K hK => ⟨fun z => ⟨fun z => ⟨fun z => absurd rfl z, fun _ => ?_⟩, fun z => absurd z (by decide)⟩, fun z => absurd z (by decide)⟩)⟩⟩
      rw [← h4]; exact hK
end Pairs2
