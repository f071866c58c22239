/-! PURE: ranges -/
theorem rng (i : Int32) {N : Nat} (hN : N < 2 ^ 31) : (∃ d, d < N ∧ i = nI d) ∨ (i < 0 ∨ nI N ≤ i) := by
  rcases pk_ix i hN with h | h | h
  · exact Or.inr (Or.inl h)
  · exact Or.inr (Or.inr h)
  · exact Or.inl h
theorem gt_of_ge {i : Int32} {N : Nat} (hN : N + 1 < 2 ^ 31) (h : nI (N + 1) ≤ i) : nI N < i := by
  rw [Int32.lt_iff_toInt_lt, nI_toInt (by omega)]
  rw [Int32.le_iff_toInt_le, nI_toInt hN] at h
  omega
section Tests
variable {Q : Int32 → Prop} {d : Nat} {i : Int32}
theorem d8t (h : d < 10) (hQ : Q 1) : wp_X8_isDoor (nI d) Q := ⟨fun z => absurd z (nI_pos (by omega)), fun _ => ⟨fun z => absurd z (ge_no h (by decide)), fun _ => hQ⟩⟩
theorem d8f (h : i < 0 ∨ nI 10 ≤ i) (hQ : Q 0) : wp_X8_isDoor i Q := ⟨fun _ => hQ, fun z => ⟨fun _ => hQ, fun y => absurd (h.resolve_left z) y⟩⟩
theorem h8t (h : d < 6) (hQ : Q 1) : wp_X8_isHall (nI d) Q := ⟨fun z => absurd z (nI_pos (by omega)), fun _ => ⟨fun z => absurd z (ge_no h (by decide)), fun _ => hQ⟩⟩
theorem h8f (h : i < 0 ∨ nI 6 ≤ i) (hQ : Q 0) : wp_X8_isHall i Q := ⟨fun _ => hQ, fun z => ⟨fun _ => hQ, fun y => absurd (h.resolve_left z) y⟩⟩
theorem g8t (h : d < 3) (hQ : Q 1) : wp_X8_isGuest (nI d) Q := ⟨fun z => absurd z (nI_pos (by omega)), fun _ => ⟨fun z => absurd z (ge_no h (by decide)), fun _ => hQ⟩⟩
theorem g8f (h : i < 0 ∨ nI 3 ≤ i) (hQ : Q 0) : wp_X8_isGuest i Q := ⟨fun _ => hQ, fun z => ⟨fun _ => hQ, fun y => absurd (h.resolve_left z) y⟩⟩
theorem t8t (h : d < 1024) (hQ : Q 1) : wp_X8_isSetOfDoors (nI d) Q := ⟨fun z => absurd z (nI_pos (by omega)), fun _ => ⟨fun z => absurd z (nI_nlt (a := 1023) (b := d) (by omega) (by decide)), fun _ => hQ⟩⟩
theorem t8f (h : i < 0 ∨ nI 1024 ≤ i) (hQ : Q 0) : wp_X8_isSetOfDoors i Q := ⟨fun _ => hQ, fun z => ⟨fun _ => hQ, fun y => absurd (gt_of_ge (N := 1023) (by decide) (h.resolve_left z)) y⟩⟩
end Tests
