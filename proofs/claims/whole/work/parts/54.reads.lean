/-! PURE: pairs: door, hall, guest, whyNot, can, together -/
section PairsR
variable {v : CDV} {w : ModV} {Q : Int32 → Prop} {i j l : Int32}
theorem s_dnf {c : Nat} (hc : c ≤ 10) (hQ : Q (cdv c)) : wp_X8_doorOrNotFound (nI c) Q := by
  unfold wp_X8_doorOrNotFound
  rw [l10, q_eq (by omega) (by decide)]
  refine ⟨fun z => ?_, fun z => ?_⟩
  · rw [show cdv c = nI c from if_neg z] at hQ
    exact hQ
  · rw [show cdv c = -4 from if_pos z] at hQ
    exact hQ
theorem p_door (hR : RR v w) (hQ : ∀ r, (∀ K : Int32 → Prop, K r → wp_X9_door w i j K) → Q r) : wp_X8_door v i j Q := by
  rcases rng i (N := 10) (by decide) with ⟨d, hd, rfl⟩ | h
  · obtain ⟨σ, R, Z, -⟩ := hR
    have hok := R.1
    have hcd := hok.1.1 d hd
    have hA := R.2.2.2.1
    refine d8t hd ⟨fun _ => ⟨?_, ?_, ?_, ?_, ?_, ?_, ?_, ?_, ?_, ?_, ?_⟩, fun z => absurd z one0⟩
    · rintro rfl
      refine s_isOpen R (by omega) (b01 (hQ _ (fun K hK => d9t hd ⟨fun _ => ⟨?_, ?_, ?_, ?_, ?_, ?_, ?_, ?_, ?_, ?_, ?_⟩, fun z => absurd z one0⟩)))
      all_goals first | (intro z; exact absurd z (by decide)) | (intros; contradiction) | skip
      exact fun _ => z_of Z hd 0 (by decide) hK
    · rintro rfl
      refine s_lesserHall R.2.1 hd (hQ _ (fun K hK => d9t hd ⟨fun _ => ⟨?_, ?_, ?_, ?_, ?_, ?_, ?_, ?_, ?_, ?_, ?_⟩, fun z => absurd z one0⟩))
      all_goals first | (intro z; exact absurd z (by decide)) | (intros; contradiction) | skip
      exact fun _ => z_lesserHall Z hok.1 hd hK
    · rintro rfl
      refine s_greaterHall R.2.1 hd (hQ _ (fun K hK => d9t hd ⟨fun _ => ⟨?_, ?_, ?_, ?_, ?_, ?_, ?_, ?_, ?_, ?_, ?_⟩, fun z => absurd z one0⟩))
      all_goals first | (intro z; exact absurd z (by decide)) | (intros; contradiction) | skip
      exact fun _ => z_greaterHall Z hok.1 hd hK
    · rintro rfl
      refine s_cordOf R.2.1 hd ?_
      rw [if_pos rfl]
      refine s_dnf hcd.1 (hQ _ (fun K hK => d9t hd ⟨fun _ => ⟨?_, ?_, ?_, ?_, ?_, ?_, ?_, ?_, ?_, ?_, ?_⟩, fun z => absurd z one0⟩))
      all_goals first | (intro z; exact absurd z (by decide)) | (intros; contradiction) | skip
      exact fun _ => z_of Z hd 3 (by decide) hK
    · rintro rfl
      refine s_cordOf R.2.1 hd ?_
      rw [if_neg (by decide)]
      refine s_dnf hcd.2.1 (hQ _ (fun K hK => d9t hd ⟨fun _ => ⟨?_, ?_, ?_, ?_, ?_, ?_, ?_, ?_, ?_, ?_, ?_⟩, fun z => absurd z one0⟩))
      all_goals first | (intro z; exact absurd z (by decide)) | (intros; contradiction) | skip
      exact fun _ => z_of Z hd 4 (by decide) hK
    · rintro rfl
      rw [R.2.2.2.2]
      refine s_heldBy R.2.1 hok.2.1 (s_has (by have := held_lt σ.1 σ.2.1; omega) (by omega) (b01 (hQ _ (fun K hK => d9t hd ⟨fun _ => ⟨?_, ?_, ?_, ?_, ?_, ?_, ?_, ?_, ?_, ?_, ?_⟩, fun z => absurd z one0⟩))))
      all_goals first | (intro z; exact absurd z (by decide)) | (intros; contradiction) | skip
      refine fun _ => z_cordsTo Z hok.1 hd ?_
      rw [if_neg (by decide)]
      have h1 := ctF_le σ.1 d σ.2.1 10
      have h2 := ctF_0 σ.1 d σ.2.1 10
      rw [l0, q_le (by omega) (by decide)]
      refine ⟨fun z => ?_, fun z => ?_⟩
      · have h3 : (held σ.1 σ.2.1).testBit d = false := h2.mp (by omega)
        rw [h3] at hK
        exact hK
      · have h3 : (held σ.1 σ.2.1).testBit d = true := by
          cases y : (held σ.1 σ.2.1).testBit d with
          | true => rfl
          | false => exact absurd (h2.mpr y) (by omega)
        rw [h3] at hK
        exact hK
    · rintro rfl
      refine s_cordsTo (n := 1023) R.2.1 hd (by decide) (hQ _ (fun K hK => d9t hd ⟨fun _ => ⟨?_, ?_, ?_, ?_, ?_, ?_, ?_, ?_, ?_, ?_, ?_⟩, fun z => absurd z one0⟩))
      all_goals first | (intro z; exact absurd z (by decide)) | (intros; contradiction) | skip
      refine fun _ => ⟨fun _ => z_cordsTo Z hok.1 hd ?_, fun z => absurd z (by decide)⟩
      rw [if_pos rfl]
      exact hK
    · rintro rfl
      rw [R.2.2.2.2]
      refine s_cordsTo R.2.1 hd hok.2.1 (hQ _ (fun K hK => d9t hd ⟨fun _ => ⟨?_, ?_, ?_, ?_, ?_, ?_, ?_, ?_, ?_, ?_, ?_⟩, fun z => absurd z one0⟩))
      all_goals first | (intro z; exact absurd z (by decide)) | (intros; contradiction) | skip
      refine fun _ => ⟨fun z => absurd rfl z, fun _ => z_cordsTo Z hok.1 hd ?_⟩
      rw [if_neg (by decide)]
      exact hK
    · rintro rfl
      rw [q_in (by omega), nI_clamp (by omega), (hA.1 d hd).1]
      refine ⟨hd, hQ _ (fun K hK => d9t hd ⟨fun _ => ⟨?_, ?_, ?_, ?_, ?_, ?_, ?_, ?_, ?_, ?_, ?_⟩, fun z => absurd z one0⟩)⟩
      all_goals first | (intro z; exact absurd z (by decide)) | (intros; contradiction) | skip
      exact fun _ => z_of Z hd 5 (by decide) hK
    · rintro rfl
      rw [q_in (by omega), nI_clamp (by omega), (hA.1 d hd).2]
      refine ⟨hd, hQ _ (fun K hK => d9t hd ⟨fun _ => ⟨?_, ?_, ?_, ?_, ?_, ?_, ?_, ?_, ?_, ?_, ?_⟩, fun z => absurd z one0⟩)⟩
      all_goals first | (intro z; exact absurd z (by decide)) | (intros; contradiction) | skip
      exact fun _ => z_of Z hd 6 (by decide) hK
    · intro z0 z1 z2 z3 z4 z5 z6 z7 z8 z9
      refine hQ _ (fun K hK => d9t hd ⟨fun _ => ⟨fun z => absurd z z0, fun z => absurd z z1, fun z => absurd z z2, fun z => absurd z z3, fun z => absurd z z4, fun z => absurd z z5, fun z => absurd z z6, fun z => absurd z z7, fun z => absurd z z8, fun z => absurd z z9, fun _ _ _ _ _ _ _ _ _ _ => hK⟩, fun z => absurd z one0⟩)
  · exact d8f h ⟨fun z => absurd rfl z, fun _ => hQ _ (fun K hK => d9f h ⟨fun z => absurd rfl z, fun _ => hK⟩)⟩
theorem p_hall (hR : RR v w) (hQ : ∀ r, (∀ K : Int32 → Prop, K r → wp_X9_hall w i j K) → Q r) : wp_X8_hall v i j Q := by
  rcases rng i (N := 6) (by decide) with ⟨h, hh, rfl⟩ | h
  · obtain ⟨σ, R, Z, -⟩ := hR
    have hok := R.1
    have hdl := doors_lt σ.1 h
    refine h8t hh ⟨fun _ => ⟨?_, ?_, ?_, ?_, ?_⟩, fun z => absurd z one0⟩
    · rintro rfl
      refine s_doorsOf R.2.1 hh (s_bitCount hdl (hQ _ (fun K hK => h9t hh ⟨fun _ => ⟨?_, ?_, ?_, ?_, ?_⟩, fun z => absurd z one0⟩)))
      all_goals first | (intro z; exact absurd z (by decide)) | (intros; contradiction) | skip
      exact fun _ => z_doorsOf Z hok.1 hh hK
    · rintro rfl
      rw [R.2.2.2.2]
      refine s_doorsOf R.2.1 hh ?_
      rw [q_and]
      refine s_bitCount (and_lt (k := 10) hdl) (hQ _ (fun K hK => h9t hh ⟨fun _ => ⟨?_, ?_, ?_, ?_, ?_⟩, fun z => absurd z one0⟩))
      all_goals first | (intro z; exact absurd z (by decide)) | (intros; contradiction) | skip
      exact fun _ => z_openIn Z hok.1 hh hK
    · rintro rfl
      refine s_howManyIn R.2.2.1 hok.2.2.2 hh (hQ _ (fun K hK => h9t hh ⟨fun _ => ⟨?_, ?_, ?_, ?_, ?_⟩, fun z => absurd z one0⟩))
      all_goals first | (intro z; exact absurd z (by decide)) | (intros; contradiction) | skip
      exact fun _ => z_guestsIn Z hok hh hK
    · rintro rfl
      rw [R.2.2.2.2]
      have hfl : hf σ.1 σ.2.1 h < 64 := hfF_lt hok.1 hh 6
      refine s_hallsFrom R.2.1 hok.2.1 hh (s_bitCount (by omega) (hQ _ (fun K hK => h9t hh ⟨fun _ => ⟨?_, ?_, ?_, ?_, ?_⟩, fun z => absurd z one0⟩)))
      all_goals first | (intro z; exact absurd z (by decide)) | (intros; contradiction) | skip
      exact fun _ => z_hangs Z hok.1 hh (z_size (by omega) hK)
    · intro z0 z1 z2 z3
      exact hQ _ (fun K hK => h9t hh ⟨fun _ => ⟨fun z => absurd z z0, fun z => absurd z z1, fun z => absurd z z2, fun z => absurd z z3, fun _ _ _ _ => hK⟩, fun z => absurd z one0⟩)
  · exact h8f h ⟨fun z => absurd rfl z, fun _ => hQ _ (fun K hK => h9f h ⟨fun z => absurd rfl z, fun _ => hK⟩)⟩
theorem p_guest (hR : RR v w) (hQ : ∀ r, (∀ K : Int32 → Prop, K r → wp_X9_guest w i j K) → Q r) : wp_X8_guest v i j Q := by
  rcases rng i (N := 3) (by decide) with ⟨g, hg, rfl⟩ | h
  · obtain ⟨σ, R, Z, -⟩ := hR
    have hok := R.1
    obtain ⟨g1, g2, g3⟩ := R.2.2.1 g hg
    refine g8t hg ⟨fun _ => ⟨?_, ?_, ?_, ?_, ?_⟩, fun z => absurd z one0⟩
    · rintro rfl
      rw [q_in (by omega), nI_clamp (by omega), g1]
      refine ⟨hg, hQ _ (fun K hK => g9t hg ⟨fun _ => ⟨?_, ?_, ?_, ?_, ?_⟩, fun z => absurd z one0⟩)⟩
      all_goals first | (intro z; exact absurd z (by decide)) | (intros; contradiction) | skip
      exact fun _ => z_ofGuest Z hg 0 (by decide) hK
    · rintro rfl
      rw [q_in (by omega), nI_clamp (by omega), g2]
      refine ⟨hg, hQ _ (fun K hK => g9t hg ⟨fun _ => ⟨?_, ?_, ?_, ?_, ?_⟩, fun z => absurd z one0⟩)⟩
      all_goals first | (intro z; exact absurd z (by decide)) | (intros; contradiction) | skip
      exact fun _ => z_ofGuest Z hg 1 (by decide) hK
    · rintro rfl
      refine s_howManyCouldOpen R hg (hQ _ (fun K hK => g9t hg ⟨fun _ => ⟨?_, ?_, ?_, ?_, ?_⟩, fun z => absurd z one0⟩))
      all_goals first | (intro z; exact absurd z (by decide)) | (intros; contradiction) | skip
      exact fun _ => z_canOpen Z hok hg hK
    · rintro rfl
      rw [q_in (by omega), nI_clamp (by omega), g3]
      refine ⟨hg, hQ _ (fun K hK => g9t hg ⟨fun _ => ⟨?_, ?_, ?_, ?_, ?_⟩, fun z => absurd z one0⟩)⟩
      all_goals first | (intro z; exact absurd z (by decide)) | (intros; contradiction) | skip
      exact fun _ => z_ofGuest Z hg 2 (by decide) hK
    · intro z0 z1 z2 z3
      exact hQ _ (fun K hK => g9t hg ⟨fun _ => ⟨fun z => absurd z z0, fun z => absurd z z1, fun z => absurd z z2, fun z => absurd z z3, fun _ _ _ _ => hK⟩, fun z => absurd z one0⟩)
  · exact g8f h ⟨fun z => absurd rfl z, fun _ => hQ _ (fun K hK => g9f h ⟨fun z => absurd rfl z, fun _ => hK⟩)⟩
theorem p_whyNot (hR : RR v w) (hQ : ∀ r, (∀ K : Int32 → Prop, K r → wp_X9_whyNot w i K) → Q r) : wp_X8_whyNot v i Q := by
  rcases rng i (N := 10) (by decide) with ⟨d, hd, rfl⟩ | h
  · obtain ⟨σ, R, Z, -⟩ := hR
    exact d8t hd ⟨fun z => absurd z one0, fun _ => s_reasonNotToOpen R hd (hQ _ (fun K hK => d9t hd ⟨fun z => absurd z one0, fun _ => z_reason Z R.1.1 hd hK⟩))⟩
  · exact d8f h ⟨fun _ => hQ _ (fun K hK => d9f h ⟨fun _ => hK, fun z => absurd rfl z⟩), fun z => absurd rfl z⟩
theorem p_can (hR : RR v w) (hQ : ∀ r, (∀ K : Int32 → Prop, K r → wp_X9_can w i K) → Q r) : wp_X8_can v i Q := by
  rcases rng i (N := 1024) (by decide) with ⟨n, hn, rfl⟩ | h
  · obtain ⟨σ, R, Z, -⟩ := hR
    exact t8t hn ⟨fun _ => s_canBeOpen R.2.1 hn (b01 (hQ _ (fun K hK => in9t (a := 0) (b := 1023) (by omega) (by omega) (by decide) ⟨fun _ => z_canBe Z R.1.1 hn (b01 hK), fun z => absurd z one0⟩))), fun z => absurd z one0⟩
  · exact t8f h ⟨fun z => absurd rfl z, fun _ => hQ _ (fun K hK => in9n (N := 1023) (by decide) h ⟨fun z => absurd rfl z, fun _ => hK⟩)⟩
end PairsR
