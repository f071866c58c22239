/-! PURE: a new object -/
def L0 : LoS := (fun d => (d + 1) % 10, fun d => (d + 3) % 10, fun d => d % 6, fun d => (d + 1) % 6, 3)
def S0 : SS2 := (L0, 0, (fun _ => 0, fun _ => 0, fun _ => 0), (fun _ => 0, fun _ => 0, 0, 0, 0, 0, 0))
theorem okL0 : okL L0 := by
  refine ⟨fun d hd => ?_, by decide, by decide⟩
  show (d + 1) % 10 ≤ 10 ∧ (d + 3) % 10 ≤ 10 ∧ (d + 1) % 10 ≠ d ∧ (d + 3) % 10 ≠ d ∧ ((d + 1) % 10 = (d + 3) % 10 → (d + 1) % 10 = 10) ∧ d % 6 < 6 ∧ (d + 1) % 6 < 6 ∧ d % 6 ≠ (d + 1) % 6
  refine ⟨by omega, by omega, by omega, by omega, by omega, by omega, by omega, by omega⟩
theorem heldF_0 (L : LoS) : ∀ k, heldF L 0 k = 0
  | 0 => rfl
  | k + 1 => by unfold heldF; rw [heldF_0 L k]; simp
theorem okS0 : okS S0 := ⟨okL0, by decide, Nat.and_zero _, fun i _ => ⟨(show 0 < 6 by decide), (show 0 < 1024 by decide)⟩⟩
theorem q_mod6 (a : Nat) (ha : a < 2 ^ 31) : nI a - nI a / (6 : Int32) * (6 : Int32) = nI (a % 6) := pk_rem ha (by decide) (by decide)
theorem q_mod10 (a : Nat) (ha : a < 2 ^ 31) : nI a - nI a / (10 : Int32) * (10 : Int32) = nI (a % 10) := pk_rem ha (by decide) (by decide)
theorem nI_a3 (a : Nat) : nI a + (3 : Int32) = nI (a + 3) := nI_add a 3
theorem s_initL {Q : LoomV → Prop} (hQ : ∀ v, rLoom v L0 → Q v) : wp_X3_init Q := by
  have key : ∀ k x (v : LoomV) (m : Nat → Nat), x + k = 10 → v.2.2.2.2.2 = 3 → (∀ i, i < x → v.1 i = nI (L0.1 i) ∧ v.2.1 i = nI (L0.2.1 i) ∧ v.2.2.1 i = nI (min (L0.2.2.1 i) (L0.2.2.2.1 i)) ∧ v.2.2.2.1 i = nI (max (L0.2.2.1 i) (L0.2.2.2.1 i))) → (∀ i, x ≤ i → v.2.2.1 i = 0 ∧ v.2.2.2.1 i = 0) → (∀ h, h < 6 → v.2.2.2.2.1 h = nI (m h)) → (∀ h i, (m h).testBit i = (decide (i < x) && jn L0 i h)) → wp_X3_init_L51 Q (k + 1) (nI x) v := by
    intro k
    induction k with
    | zero =>
      intro x v m hx h3 h4 h5 h6 h7
      have hx : x = 10 := by omega
      subst hx
      refine ⟨fun _ => hQ _ ⟨okL0, h4, fun h hh => ?_, h3⟩, fun z => absurd (ge_self _) z⟩
      rw [h6 h hh]
      congr 1
      refine bits_eq (fun i => ?_)
      rw [h7, doors_bit]
    | succ k ih =>
      intro x v m hx h3 h4 h5 h6 h7
      have hx10 : x < 10 := by omega
      refine ⟨fun z => absurd z (ge_no hx10 (by decide)), fun _ => ?_⟩
      rw [nI_s, nI_a3, q_mod10 _ (by omega), q_mod10 _ (by omega), q_mod6 _ (by omega), q_mod6 _ (by omega), q_in (by omega), nI_clamp (by omega)]
      refine ⟨hx10, ?_⟩
      rintro _ rfl
      refine ⟨hx10, ?_⟩
      rintro _ rfl
      refine s_hang (m := m) hx10 (Nat.mod_lt _ (by decide)) (Nat.mod_lt _ (by decide)) h6 ?_
      intro g m' hg hb
      rintro _ rfl
      refine ih (x + 1) _ m' (by omega) h3 (fun i hi => ?_) (fun i hi => ?_) hg (fun h i => ?_)
      · by_cases hix : i = x
        · subst hix
          exact ⟨updS, updS, updS, updS⟩
        · obtain ⟨f1, f2, f3, f4⟩ := h4 i (by omega)
          exact ⟨(updO hix).trans f1, (updO hix).trans f2, (updO hix).trans f3, (updO hix).trans f4⟩
      · obtain ⟨f1, f2⟩ := h5 i (by omega)
        exact ⟨(updO (by omega)).trans f1, (updO (by omega)).trans f2⟩
      · rw [hb]
        by_cases hix : i = x
        · subst hix
          rw [if_pos rfl]
          unfold jn
          simp only [L0]
          rw [show (h == i % 6) = (i % 6 == h) from Bool.beq_comm, show (h == (i + 1) % 6) = ((i + 1) % 6 == h) from Bool.beq_comm]
          simp
        · rw [if_neg hix, h7]
          congr 1
          exact decide_eq_decide.mpr (by omega)
  refine ⟨11, key 10 0 _ (fun _ => 0) rfl rfl (fun i hi => absurd hi (Nat.not_lt_zero i)) (fun i _ => ⟨rfl, rfl⟩) (fun h _ => rfl) (fun h i => ?_)⟩
  rw [Nat.zero_testBit]
  simp
theorem s_initS {Q : StV → Prop} (hQ : ∀ v, rSt v S0 → Q v) : wp_X5_init Q :=
  s_initL (fun v hv => hQ _ ⟨okS0, hv, fun i _ => ⟨rfl, rfl, rfl⟩, ⟨fun d _ => ⟨rfl, rfl⟩, rfl⟩, rfl⟩)
