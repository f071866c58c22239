/-! PURE: pairs: ifOpened -/
theorem asub (a b : Int32) : (a + b) - a = b := by rw [Int32.add_comm, Int32.add_sub_cancel]
theorem pc_lt (n : Nat) : pc n < 2 ^ 31 := by have := pc_le n; omega
theorem z_back {v : CDV} {w : ModV} {σ : SS2} {z s : Nat → Int32} {r : Int32} {K : Int32 → ModV → Prop} (hR : RR v w) (R : rSt v.1 σ) (S : rZ s σ) (hK : ∀ w', RR v w' → K r w') : wp_X9_copyState 85 85 s z (0 : Int32) (0 : Int32) (fun u => K r (u, s, w.2.2)) := by
  obtain ⟨σ', R', Z', h2⟩ := hR
  refine z_copyState (o0 := 0) (o1 := 0) (by decide) (by decide) (by decide) (by decide) (fun q hq1 hq2 => hK _ ⟨σ, R, fun j hj => ?_, h2⟩)
  have := hq1 j hj
  rw [Nat.zero_add] at this
  exact this.trans (S j hj)
theorem p_ifOpened {v : CDV} {w : ModV} {Q : Int32 → Prop} {i j : Int32} (hR : RR v w) (hQ : ∀ r, (∀ K : Int32 → ModV → Prop, (∀ w', RR v w' → K r w') → wp_X9_ifOpened w i j K) → Q r) : wp_X8_ifOpened v i j Q := by
  rcases rng i (N := 10) (by decide) with ⟨d, hd, rfl⟩ | h
  · obtain ⟨σ, R, Z, h2⟩ := id hR
    have hok := R.1
    have hop := hok.2.1
    have hC := afterC_lt σ.1 hop hd
    have hO := afterO_lt σ.1 hop hd
    refine d8t hd ⟨fun _ => ?_, fun z => absurd z one0⟩
    rintro _ rfl
    rw [R.2.2.2.2]
    refine s_reasonNotToOpen R hd ?_
    have h7 := rsn_lt σ.1 σ.2.1 d
    rw [l0, q_eq (by omega) (by decide)]
    rcases rng j (N := 3) (by decide) with ⟨c, hc, rfl⟩ | hj
    · have tail : ∀ {K : Int32 → ModV → Prop}, _ → wp_X9_ifOpened w (nI d) (nI c) K := fun {K} y => d9t hd ⟨fun z => absurd z one0, fun _ => in9t (a := 0) (b := 2) (by omega) (by omega) (by decide) ⟨fun _ => z_reason Z hok.1 hd y, fun z => absurd z one0⟩⟩
      refine ⟨fun z0 => ?_, fun z0 => ?_⟩
      · refine ⟨fun _ => s_afterCords R.2.1 hd ⟨fun _ => s_afterDrafts R.2.1 hd hC ?_, fun z => absurd rfl z⟩, fun z => absurd rfl z⟩
        have opens : ∀ {K : Int32 → ModV → Prop}, _ → ((nI (rsn σ.1 σ.2.1 d) ≤ 0) → wp_X9_copyState 85 85 w.1 w.2.1 (0 : Int32) (0 : Int32) (fun u11 => wp_X9_opens (w.1, u11, w.2.2) (nI d) K)) := fun {K} (y : ∀ s z', rZ s σ → rZ z' (opS σ d) → K (nI (pc (dif σ.2.1 (afterC σ.1 σ.2.1 d) ||| dif (afterC σ.1 σ.2.1 d) (afterO σ.1 σ.2.1 d)))) (z', s, w.2.2)) _ => by
          refine z_copyState (o0 := 0) (o1 := 0) (by decide) (by decide) (by decide) (by decide) (fun q hq1 hq2 => ?_)
          have S : rZ q σ := fun j hj => by
            have := hq1 j hj
            rw [Nat.zero_add] at this
            exact this.trans (Z j hj)
          exact z_opens (v := (w.1, q, w.2.2)) Z hok.1 hop hd (fun z' hz' => y q z' S hz')
        have no : ¬ ¬ nI (rsn σ.1 σ.2.1 d) ≤ 0 := by rw [z0]; decide
        have e3 : ∀ z', rZ z' (opS σ d) → ∀ s, rZ s σ → z' (3 : Int32).toNatClampNeg - s (3 : Int32).toNatClampNeg = nI (pc (dif σ.2.1 (afterC σ.1 σ.2.1 d))) := by
          intro z' hz' s S
          have a1 : z' (3 : Int32).toNatClampNeg = σ.2.2.2.2.2.2.2.1 + nI (pc (dif σ.2.1 (afterC σ.1 σ.2.1 d))) := rZ_H hz' (i := 3) (by decide)
          have a2 : s (3 : Int32).toNatClampNeg = σ.2.2.2.2.2.2.2.1 := rZ_H S (i := 3) (by decide)
          rw [a1, a2, asub]
        have e4 : ∀ z', rZ z' (opS σ d) → ∀ s, rZ s σ → z' (4 : Int32).toNatClampNeg - s (4 : Int32).toNatClampNeg = nI (pc (dif (afterC σ.1 σ.2.1 d) (afterO σ.1 σ.2.1 d))) := by
          intro z' hz' s S
          have a1 : z' (4 : Int32).toNatClampNeg = σ.2.2.2.2.2.2.2.2.1 + nI (pc (dif (afterC σ.1 σ.2.1 d) (afterO σ.1 σ.2.1 d))) := rZ_H hz' (i := 4) (by decide)
          have a2 : s (4 : Int32).toNatClampNeg = σ.2.2.2.2.2.2.2.2.1 := rZ_H S (i := 4) (by decide)
          rw [a1, a2, asub]
        have hc' : c = 0 ∨ c = 1 ∨ c = 2 := by omega
        rcases hc' with rfl | rfl | rfl
        · refine ⟨fun _ => hQ _ (fun K hK => tail ⟨opens (fun s z' S hz' => ⟨fun z => absurd rfl z, fun _ => z_openSet (v := (z', s, w.2.2)) hz' hO (z_back hR R S hK)⟩), fun z => absurd z no⟩), fun z => absurd z (by decide), fun z => absurd z (by decide), fun z => absurd rfl z⟩
        · refine ⟨fun z => absurd z (by decide), fun _ => ?_, fun z => absurd z (by decide), fun _ z => absurd rfl z⟩
          rw [q_andn]
          refine s_bitCount (dif_lt (k := 10) hop) (hQ _ (fun K hK => tail ⟨opens (fun s z' S hz' => ⟨fun _ => ⟨fun z => absurd rfl z, fun _ => ⟨in85 (k := 3) (by decide), in85 (k := 3) (by decide), ?_⟩⟩, fun z => absurd z one0⟩), fun z => absurd z no⟩))
          rintro _ rfl
          rw [e3 z' hz' s S]
          exact z_back hR R S hK
        · refine ⟨fun z => absurd z (by decide), fun z => absurd z (by decide), fun _ => ?_, fun _ _ z => absurd rfl z⟩
          rw [show nI (afterD σ.1 (afterC σ.1 σ.2.1 d) d) = nI (afterO σ.1 σ.2.1 d) from rfl, q_andn]
          refine s_bitCount (dif_lt (k := 10) hC) (hQ _ (fun K hK => tail ⟨opens (fun s z' S hz' => ⟨fun _ => ⟨fun _ => ⟨in85 (k := 4) (by decide), in85 (k := 4) (by decide), ?_⟩, fun z => absurd z (by decide)⟩, fun z => absurd z (by decide)⟩), fun z => absurd z no⟩))
          rintro _ rfl
          rw [e4 z' hz' s S]
          exact z_back hR R S hK
      · have no : ¬ nI (rsn σ.1 σ.2.1 d) ≤ 0 := nI_nle (by omega) (by omega)
        refine ⟨fun z => absurd z one0, fun _ => ⟨fun z => absurd z one0, fun _ => ?_⟩⟩
        have hc' : c = 0 ∨ c = 1 ∨ c = 2 := by omega
        rcases hc' with rfl | rfl | rfl
        · exact ⟨fun _ => hQ _ (fun K hK => tail ⟨fun z => absurd z no, fun _ => ⟨fun z => absurd rfl z, fun _ => z_openSet Z hop (hK _ hR)⟩⟩), fun z => absurd z (by decide), fun z => absurd z (by decide), fun z => absurd rfl z⟩
        · refine ⟨fun z => absurd z (by decide), fun _ => ?_, fun z => absurd z (by decide), fun _ z => absurd rfl z⟩
          rw [q_andn, dif_self]
          refine s_bitCount (by decide) ?_
          rw [pc_0]
          exact hQ _ (fun K hK => tail ⟨fun z => absurd z no, fun _ => ⟨fun _ => hK _ hR, fun z => absurd z one0⟩⟩)
        · refine ⟨fun z => absurd z (by decide), fun z => absurd z (by decide), fun _ => ?_, fun _ _ z => absurd rfl z⟩
          rw [q_andn, dif_self]
          refine s_bitCount (by decide) ?_
          rw [pc_0]
          exact hQ _ (fun K hK => tail ⟨fun z => absurd z no, fun _ => ⟨fun _ => hK _ hR, fun z => absurd z (by decide)⟩⟩)
    · have bad : Q (-1) := hQ _ (fun K hK => d9t hd ⟨fun z => absurd z one0, fun _ => in9n (N := 2) (by decide) hj ⟨fun z => absurd rfl z, fun _ => hK _ hR⟩⟩)
      have n0 : ¬ j = 0 := by rintro rfl; exact absurd hj (by decide)
      have n1 : ¬ j = 1 := by rintro rfl; exact absurd hj (by decide)
      have n2 : ¬ j = 2 := by rintro rfl; exact absurd hj (by decide)
      have b80 : ∀ a b c, wp_X8_ifOpened_B80 v j a b c Q := fun a b c => ⟨fun z => absurd z n0, fun z => absurd z n1, fun z => absurd z n2, fun _ _ _ => bad⟩
      exact ⟨fun z0 => ⟨fun _ => s_afterCords R.2.1 hd ⟨fun _ => s_afterDrafts R.2.1 hd hC (b80 _ _ _), fun z => absurd rfl z⟩, fun z => absurd rfl z⟩, fun z0 => ⟨fun z => absurd z one0, fun _ => ⟨fun z => absurd z one0, fun _ => b80 _ _ _⟩⟩⟩
  · exact d8f h ⟨fun z => absurd rfl z, fun _ => hQ _ (fun K hK => d9f h ⟨fun _ => hK _ hR, fun z => absurd rfl z⟩)⟩
