/-! PURE: pairs: deeds -/
theorem AnS_W {L : LoS} {ks goal : Nat} {st : Sp} {r : Int32} (h : AnS L ks goal st r) : AnW L ks goal st r :=
  h.imp id (fun h => ⟨h.1, fun k _ => h.2 k⟩)
theorem An_uni {L : LoS} {ks goal : Nat} {st : Sp} {r1 r2 : Int32} (h1 : AnW L ks goal st r1) (h2 : AnW L ks goal st r2) : r1 = r2 := by
  rcases h1 with ⟨k1, a1, rfl, a2, a3⟩ | ⟨rfl, a1⟩
  · rcases h2 with ⟨k2, b1, rfl, b2, b3⟩ | ⟨rfl, b1⟩
    · rcases Nat.lt_trichotomy k1 k2 with x | x | x
      · exact absurd a2 (b3 k1 x)
      · rw [x]
      · exact absurd b2 (a3 k2 x)
    · exact absurd a2 (b1 k1 a1)
  · rcases h2 with ⟨k2, b1, rfl, b2, b3⟩ | ⟨rfl, b1⟩
    · exact absurd b2 (a1 k2 b1)
    · rfl
theorem p_deeds {v : CDV} {w : ModV} {Q : Int32 → CDV → Prop} {i j l : Int32} (hR : RR v w) (hQ : ∀ r v', (∀ K : Int32 → ModV → Prop, (∀ w', RR v' w' → K r w') → wp_X9_deeds w i j l K) → Q r v') : wp_X8_deeds v i j l Q := by
  rcases rng i (N := 3) (by decide) with ⟨g, hg, rfl⟩ | h
  · rcases rng j (N := 6) (by decide) with ⟨goal, hgo, rfl⟩ | h
    · obtain ⟨σ, R, Z, h2⟩ := id hR
      have hok := R.1
      have hst : okP σ.1 (σ.2.1, σ.2.2.1.1 g) := ⟨hok.2.1, (hok.2.2.2 g hg).1, (indep_iff _ _).mp hok.2.2.1⟩
      have hks := (hok.2.2.2 g hg).2
      obtain ⟨g1, g2, g3⟩ := R.2.2.1 g hg
      refine g8t hg ⟨fun y => absurd y one0, fun _ => h8t hgo ⟨fun _ => ?_, fun y => absurd y one0⟩⟩
      rw [q_in (by omega), nI_clamp (by omega), R.2.2.2.2, g1, g2]
      refine ⟨hg, s_spot ⟨hg, ?_⟩⟩
      rintro _ rfl
      refine ⟨?_, ?_, fun z0 z1 => ?_⟩
      · rintro rfl
        refine s_fromNowOn R.2.1 hks hst hgo (fun r u hr => hQ _ _ (fun K hK => ?_))
        refine z_deedsW (way := 0) Z hok hg hgo (by decide) (fun r' s z few line c Z' hr' => ?_)
        rw [An_uni (AnS_W hr') (AnS_W hr)]
        exact hK _ ⟨σ, R, Z', h2⟩
      · rintro rfl
        refine s_fromHallBack R.2.1 hks hgo hst (fun r u hr => hQ _ _ (fun K hK => ?_))
        refine z_deedsW (way := 1) Z hok hg hgo (by decide) (fun r' s z few line c Z' hr' => ?_)
        rw [An_uni (AnS_W hr') hr]
        exact hK _ ⟨σ, R, Z', h2⟩
      · refine hQ _ _ (fun K hK => g9t hg ⟨fun y => absurd y one0, fun _ => h9t hgo ⟨fun y => absurd y one0, fun _ => in9f ?_ ⟨fun y => absurd rfl y, fun _ => hK _ hR⟩⟩⟩)
        rcases rng l (N := 2) (by decide) with ⟨d, hd, rfl⟩ | h
        · rw [l0, q_eq (by omega) (by decide)] at z0
          rw [l1, q_eq (by omega) (by decide)] at z1
          omega
        · exact h.imp id (gt_of_ge (N := 1) (by decide))
    · exact g8t hg ⟨fun y => absurd y one0, fun _ => h8f h ⟨fun y => absurd rfl y, fun _ => hQ _ _ (fun K hK => g9t hg ⟨fun y => absurd y one0, fun _ => h9f h ⟨fun _ => hK _ hR, fun y => absurd rfl y⟩⟩)⟩⟩
  · exact g8f h ⟨fun _ => hQ _ _ (fun K hK => g9f h ⟨fun _ => hK _ hR, fun y => absurd rfl y⟩), fun y => absurd rfl y⟩
